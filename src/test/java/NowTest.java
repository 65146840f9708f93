/** Promises 6 to 15: people, dead, houses, where a saying comes out and who hears it. */
public final class NowTest {
    private static final Check CHECK = new Check("NowTest");

    public static void main(String[] args) {
        SeanceStreet x = Check.townOf(Towns.FOUR);
        people(x);
        dead(x);
        houses(x);
        comingOut(x);
        hearing(x);
        rightAndSilent(x);
        noDead();
        goingRound();
        afterActs();
        withoutTown();
        CHECK.end();
    }

    private static void people(SeanceStreet x) {
        int[][] due = {{0, 17, 18}, {3, 2, 8}, {7, 4, 5}, {10, 8, 0}};
        for (int p = 0; p < 4; p++) {
            for (int what = 0; what < 3; what++) {
                CHECK.due("person(" + p + ", " + what + ")", x.person(p, what), due[p][what]);
            }
        }
        CHECK.due("trouble()", x.trouble(), 0);
        CHECK.refused(x, "person(4, 0)", x.person(4, 0), -1, 1);
        CHECK.refused(x, "person(-1, 0)", x.person(-1, 0), -1, 1);
        CHECK.refused(x, "person(0, 3)", x.person(0, 3), -1, 1);
        CHECK.refused(x, "person(0, -1)", x.person(0, -1), -1, 1);
    }

    private static void dead(SeanceStreet x) {
        int[][] due = {{0, 4, 0, -2}, {1, 2, 1, 6}, {2, 5, 2, -2}, {3, 3, 3, 1}, {0, 0, 0, -2}};
        for (int d = 0; d < 5; d++) {
            for (int what = 0; what < 4; what++) {
                CHECK.due("dead(" + d + ", " + what + ")", x.dead(d, what), due[d][what]);
            }
        }
        CHECK.refused(x, "dead(5, 0)", x.dead(5, 0), -1, 1);
        CHECK.refused(x, "dead(-1, 0)", x.dead(-1, 0), -1, 1);
        CHECK.refused(x, "dead(0, 4)", x.dead(0, 4), -1, 1);
        CHECK.refused(x, "dead(0, -1)", x.dead(0, -1), -1, 1);
        CHECK.due("dead(4, 3)", x.dead(4, 3), -2);
        CHECK.due("trouble(), -2 is no refusal", x.trouble(), 0);
    }

    private static void houses(SeanceStreet x) {
        int[] due = {0, -2, -2, 1, -2, -2, -2, 2, -2, -2, 3, -2};
        for (int h = 0; h < 12; h++) {
            CHECK.due("house(" + h + ")", x.house(h), due[h]);
        }
        CHECK.refused(x, "house(12)", x.house(12), -1, 1);
        CHECK.refused(x, "house(-1)", x.house(-1), -1, 1);
    }

    private static void comingOut(SeanceStreet x) {
        int[][] due = {{4, 4, 4, 4}, {11, 11, 11, 11}, {7, 0, 5, 10}, {1, 7, 1, 7}, {0, 0, 0, 0}};
        for (int d = 0; d < 5; d++) {
            for (int night = 0; night < 4; night++) {
                CHECK.due("comesOut(" + d + ", " + night + ")", x.comesOut(d, night), due[d][night]);
            }
        }
        CHECK.due("comesOut(2, 99)", x.comesOut(2, 99), (7 + 5 * 99) % 12);
        CHECK.due("outIf(1, 0, 5)", x.outIf(1, 0, 5), 2);
        CHECK.due("outIf(2, 11, 3)", x.outIf(2, 11, 3), 2);
        CHECK.due("outIf(3, 0, 1)", x.outIf(3, 0, 1), 5);
        CHECK.due("outIf(3, 0, 2)", x.outIf(3, 0, 2), 11);
        CHECK.due("outIf(0, 11, 0)", x.outIf(0, 11, 0), 3);
        CHECK.refused(x, "comesOut(5, 0)", x.comesOut(5, 0), -1, 1);
        CHECK.refused(x, "comesOut(0, 100)", x.comesOut(0, 100), -1, 2);
        CHECK.refused(x, "comesOut(0, -1)", x.comesOut(0, -1), -1, 2);
        CHECK.refused(x, "comesOut(-1, -1)", x.comesOut(-1, -1), -1, 1);
        CHECK.refused(x, "outIf(5, 0, 0)", x.outIf(5, 0, 0), -1, 1);
        CHECK.refused(x, "outIf(0, 12, 0)", x.outIf(0, 12, 0), -1, 1);
        CHECK.refused(x, "outIf(0, -1, 0)", x.outIf(0, -1, 0), -1, 1);
        CHECK.refused(x, "outIf(0, 0, 100)", x.outIf(0, 0, 100), -1, 2);
    }

    private static void hearing(SeanceStreet x) {
        int[][] who = {{2, 2, 2, 2}, {0, 0, 0, 0}, {2, 0, 2, 3}, {1, 2, 1, 2}, {0, 0, 0, 0}};
        int[][] off = {{3, 3, 3, 3}, {1, 1, 1, 1}, {0, 0, 2, 0}, {2, 0, 2, 0}, {0, 0, 0, 0}};
        for (int d = 0; d < 5; d++) {
            for (int night = 0; night < 4; night++) {
                CHECK.due("hears(" + d + ", " + night + ")", x.hears(d, night), who[d][night]);
                CHECK.due("off(" + d + ", " + night + ")", x.off(d, night), off[d][night]);
            }
        }
        CHECK.refused(x, "hears(5, 0)", x.hears(5, 0), -1, 1);
        CHECK.refused(x, "hears(0, -1)", x.hears(0, -1), -1, 2);
        CHECK.refused(x, "off(5, 100)", x.off(5, 100), -1, 1);
        CHECK.refused(x, "off(0, 100)", x.off(0, 100), -1, 2);
    }

    private static void rightAndSilent(SeanceStreet x) {
        CHECK.due("right(0)", x.right(0), 20);
        CHECK.due("right(1)", x.right(1), 16);
        CHECK.due("right(2)", x.right(2), 20);
        CHECK.due("medium(0), the first of two", x.medium(0), 0);
        CHECK.due("medium(1)", x.medium(1), 0);
        CHECK.due("medium(9)", x.medium(9), 2);
        CHECK.due("silent(0)", x.silent(0), 8);
        CHECK.due("silent(1)", x.silent(1), 10);
        CHECK.refused(x, "right(100)", x.right(100), -1, 2);
        CHECK.refused(x, "right(-1)", x.right(-1), -1, 2);
        CHECK.refused(x, "medium(100)", x.medium(100), -1, 2);
        CHECK.refused(x, "silent(100)", x.silent(100), -1, 2);
        CHECK.due("right(99)", x.right(99), 16);
        CHECK.due("trouble()", x.trouble(), 0);
    }

    private static void noDead() {
        SeanceStreet x = Check.townOf(Towns.PAIR);
        CHECK.due("right(0)", x.right(0), 0);
        CHECK.due("medium(0)", x.medium(0), 0);
        CHECK.due("silent(0)", x.silent(0), 3);
        CHECK.refused(x, "hears(0, 0)", x.hears(0, 0), -1, 1);
    }

    /** Slips that go round more than once, and a mirror on the house itself. */
    private static void goingRound() {
        SeanceStreet x = Check.townOf("town houses 5 lips 0;person a house 2;person b house 4;dead l late slip 39 for a;"
            + "dead e early slip 39 for a;dead d drift slip 39 for a;dead s swing slip 39 for b;mirror s 4");
        CHECK.due("comesOut(0, 0)", x.comesOut(0, 0), 1);
        CHECK.due("comesOut(1, 0)", x.comesOut(1, 0), 3);
        CHECK.due("comesOut(2, 99)", x.comesOut(2, 99), (2 + 39 * 99) % 5);
        CHECK.due("comesOut(3, 0)", x.comesOut(3, 0), 0);
        CHECK.due("comesOut(3, 1)", x.comesOut(3, 1), 3);
        CHECK.due("hears(0, 0)", x.hears(0, 0), 0);
        CHECK.due("hears(1, 0)", x.hears(1, 0), 1);
        CHECK.due("hears(3, 0), past the last house", x.hears(3, 0), 0);
        CHECK.due("off(3, 0)", x.off(3, 0), 2);
        SeanceStreet alone = Check.townOf("town houses 9 lips 0;person a house 3;dead x late slip 1 for a");
        CHECK.due("off(0, 0), nearly all round", alone.off(0, 0), 8);
        CHECK.due("hears(0, 0), who is alone", alone.hears(0, 0), 0);
    }

    /** What acts change is as NOW, and the night asked is the number told. */
    private static void afterActs() {
        SeanceStreet x = Check.townOf(Towns.FOUR);
        x.move(0, 1);
        x.hang(0, 2);
        x.teach(2, 1);
        x.take(1);
        x.night();
        CHECK.due("person(0, 0)", x.person(0, 0), 1);
        CHECK.due("house(0)", x.house(0), -2);
        CHECK.due("dead(0, 3)", x.dead(0, 3), 2);
        CHECK.due("dead(2, 1)", x.dead(2, 1), 1);
        CHECK.due("dead(1, 3)", x.dead(1, 3), -2);
        CHECK.due("comesOut(0, 0)", x.comesOut(0, 0), 11);
        CHECK.due("comesOut(1, 0)", x.comesOut(1, 0), 1);
        CHECK.due("hears(1, 0)", x.hears(1, 0), 0);
        CHECK.due("comesOut(2, 0)", x.comesOut(2, 0), 7);
        CHECK.due("comesOut(2, 3)", x.comesOut(2, 3), 10);
        CHECK.due("person(2, 2), on night 1", x.person(2, 2), 8);
        CHECK.due("person(3, 2), on night 1", x.person(3, 2), 4);
    }

    private static void withoutTown() {
        SeanceStreet x = new SeanceStreet();
        CHECK.refused(x, "dead(0, 0)", x.dead(0, 0), -1, 1);
        CHECK.refused(x, "comesOut(0, 0)", x.comesOut(0, 0), -1, 1);
        CHECK.refused(x, "outIf(0, 0, 0)", x.outIf(0, 0, 0), -1, 1);
        CHECK.refused(x, "hears(0, 0)", x.hears(0, 0), -1, 1);
        CHECK.refused(x, "off(0, 0)", x.off(0, 0), -1, 1);
        CHECK.refused(x, "right(100)", x.right(100), -1, 1);
        CHECK.refused(x, "medium(0)", x.medium(0), -1, 1);
        CHECK.refused(x, "silent(0)", x.silent(0), -1, 1);
    }
}
