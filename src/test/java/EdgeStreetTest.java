/** Term II and promises 6 to 15 at their bounds, a method for each sentence that names one. */
public final class EdgeStreetTest {
    private static final Check CHECK = new Check("EdgeStreetTest");

    public static void main(String[] args) {
        behindTheLastHouse();
        late();
        early();
        drift();
        swing();
        mirrors();
        fromThereOn();
        whoIsAlone();
        person();
        dead();
        house();
        comesOut();
        outIf();
        off();
        right();
        medium();
        silent();
        whateverNightItIs();
        CHECK.end();
    }

    /** A saying for a, who is in that house; b is in house 0 or, if a is there, in house 1. */
    private static SeanceStreet saying(int houses, int house, String law, int slip) {
        return Check.townOf("town houses " + houses + " lips 0;person a house " + house + ";person b house "
            + (house == 0 ? 1 : 0) + ";dead x " + law + " slip " + slip + " for a");
    }

    private static void out(int houses, int house, String law, int slip, int night, int due) {
        CHECK.due(law + " " + slip + " from " + house + " of " + houses + " on night " + night,
            saying(houses, house, law, slip).comesOut(0, night), due);
    }

    private static void behindTheLastHouse() {
        CHECK.by("II: HOUSES go round: behind the last one comes the first one, at 0");
        out(40, 38, "late", 1, 0, 39);
        out(40, 39, "late", 1, 0, 0);
        out(2, 1, "late", 1, 0, 0);
        out(40, 0, "early", 1, 0, 39);
        out(2, 0, "early", 1, 0, 1);
    }

    private static void late() {
        CHECK.by("II: late: slip houses on");
        out(40, 5, "late", 0, 0, 5);
        out(40, 5, "late", 39, 0, 4);
        out(39, 5, "late", 39, 0, 5);
        out(2, 0, "late", 39, 0, 1);
        out(2, 0, "late", 38, 0, 0);
        out(40, 5, "late", 39, 99, 4);
    }

    private static void early() {
        CHECK.by("II: early: slip houses back");
        out(40, 5, "early", 0, 0, 5);
        out(40, 5, "early", 5, 0, 0);
        out(40, 5, "early", 6, 0, 39);
        out(40, 5, "early", 39, 0, 6);
        out(3, 0, "early", 39, 0, 0);
        out(3, 0, "early", 38, 99, 1);
    }

    private static void drift() {
        CHECK.by("II: drift: slip times the night's number on");
        out(40, 5, "drift", 39, 0, 5);
        out(40, 5, "drift", 39, 1, 4);
        out(40, 5, "drift", 0, 99, 5);
        out(37, 5, "drift", 39, 99, (5 + 39 * 99) % 37);
        out(2, 1, "drift", 1, 99, 0);
        out(2, 1, "drift", 1, 98, 1);
    }

    private static void swing() {
        CHECK.by("II: swing: slip on in even nights, back in odd ones");
        out(40, 39, "swing", 1, 0, 0);
        out(40, 0, "swing", 1, 1, 39);
        out(40, 39, "swing", 1, 98, 0);
        out(40, 0, "swing", 1, 99, 39);
        out(40, 7, "swing", 20, 0, 27);
        out(40, 7, "swing", 20, 1, 27);
        out(40, 7, "swing", 0, 99, 7);
    }

    private static void mirrored(int houses, int house, int slip, int mirror, int due) {
        SeanceStreet x = Check.townOf("town houses " + houses + " lips 0;person a house " + house + ";dead x late slip "
            + slip + " for a;mirror x " + mirror);
        CHECK.due(slip + " on from " + house + " of " + houses + ", mirror at " + mirror, x.comesOut(0, 0), due);
    }

    private static void mirrors() {
        CHECK.by("II: if that dead has a mirror, as far on the other side of the mirror's house as it would be from it");
        mirrored(10, 3, 0, 3, 3);
        mirrored(10, 3, 0, 8, 3);
        mirrored(10, 2, 0, 0, 8);
        mirrored(10, 8, 0, 9, 0);
        mirrored(10, 8, 0, 0, 2);
        mirrored(10, 0, 0, 0, 0);
        mirrored(10, 9, 1, 9, 8);
        mirrored(11, 0, 39, 5, 4);
        mirrored(2, 0, 0, 1, 0);
        mirrored(2, 1, 0, 0, 1);
        mirrored(40, 39, 39, 39, 0);
        mirrored(40, 39, 39, 0, 2);
    }

    private static void fromThereOn() {
        CHECK.by("II: Who HEARS it: who is in that house, else the first one who is in a house from there on");
        SeanceStreet x = Check.townOf("town houses 40 lips 0;person a house 3;person b house 38;dead x late slip 0 for a");
        int[][] rows = {{0, 0}, {2, 0}, {3, 0}, {4, 1}, {37, 1}, {38, 1}, {39, 0}};
        for (int[] row : rows) {
            // Aimed from 3, with no slip, by a mirror: twice the mirror less 3; or by a slip.
            x.teach(0, Math.floorMod(row[0] - 3, 40));
            CHECK.due("comesOut(0, 0)", x.comesOut(0, 0), row[0]);
            CHECK.due("hears(0, 0), at " + row[0], x.hears(0, 0), row[1]);
        }
        SeanceStreet two = Check.townOf("town houses 2 lips 0;person a house 1;person b house 0;dead x drift slip 1 for b");
        CHECK.due("hears(0, 0)", two.hears(0, 0), 1);
        CHECK.due("hears(0, 1)", two.hears(0, 1), 0);
        CHECK.due("hears(0, 99)", two.hears(0, 99), 0);
    }

    private static void whoIsAlone() {
        CHECK.by("II: else the first one who is in a house from there on (one person alone)");
        for (int houses : new int[] {2, 3, 40}) {
            SeanceStreet x = Check.townOf("town houses " + houses + " lips 0;person a house 0;dead x drift slip 1 for a");
            for (int night = 0; night < 42; night++) {
                CHECK.due("hears(0, " + night + ") of " + houses, x.hears(0, night), 0);
                CHECK.due("off(0, " + night + ") of " + houses, x.off(0, night), Math.floorMod(-night, houses));
            }
        }
    }

    private static void person() {
        CHECK.by("6: 0 his house NOW, 1 dead for him, as bits, 2 dead he HEARS on the night NOW, as bits");
        SeanceStreet x = Check.townOf(Texts.people(40, 0, 6) + Texts.dead(6, "drift", 1, "pf"));
        for (int p = 0; p < 6; p++) {
            CHECK.due("person(" + p + ", 0)", x.person(p, 0), p);
            CHECK.due("person(" + p + ", 1)", x.person(p, 1), p == 5 ? 63 : 0);
            CHECK.due("person(" + p + ", 2)", x.person(p, 2), p == 5 ? 63 : 0);
        }
        x.night();
        CHECK.due("person(0, 2) on night 1", x.person(0, 2), 63);
        CHECK.due("person(5, 2) on night 1", x.person(5, 2), 0);
        CHECK.due("person(5, 1) on night 1", x.person(5, 1), 63);
        x.move(5, 39);
        CHECK.due("person(5, 0)", x.person(5, 0), 39);
        x.move(0, 5);
        CHECK.due("person(1, 2), the houses go round", x.person(1, 2), 63);
        SeanceStreet none = Check.townOf(Towns.PAIR);
        for (int what = 1; what <= 2; what++) {
            CHECK.due("person(1, " + what + "), no dead", none.person(1, what), 0);
            CHECK.due("trouble()", none.trouble(), 0);
        }
    }

    private static void dead() {
        CHECK.by("7: 3 the house of his mirror NOW (-2 none)");
        SeanceStreet x = Check.townOf("town houses 40 lips 0;person a house 0;dead u late slip 0 for a;"
            + "dead v swing slip 39 for a;dead w early slip 1 for a;mirror u 0;mirror v 39");
        int[] mirrors = {0, 39, -2};
        int[] slips = {0, 39, 1};
        for (int d = 0; d < 3; d++) {
            CHECK.due("dead(" + d + ", 3)", x.dead(d, 3), mirrors[d]);
            CHECK.due("trouble()", x.trouble(), 0);
            CHECK.due("dead(" + d + ", 1)", x.dead(d, 1), slips[d]);
        }
        x.take(0);
        x.hang(2, 0);
        CHECK.due("dead(0, 3), taken", x.dead(0, 3), -2);
        CHECK.due("dead(2, 3), hung at 0", x.dead(2, 3), 0);
        CHECK.by("7: 1 slip NOW");
        x.teach(0, 39);
        CHECK.due("dead(0, 1)", x.dead(0, 1), 39);
        x.undo();
        CHECK.due("dead(0, 1)", x.dead(0, 1), 0);
    }

    private static void house() {
        CHECK.by("8: Who is in a house; -2 nobody");
        SeanceStreet x = Check.townOf("town houses 40 lips 0;person a house 39;person b house 0");
        CHECK.due("house(39)", x.house(39), 0);
        CHECK.due("house(0)", x.house(0), 1);
        CHECK.due("house(1)", x.house(1), -2);
        CHECK.due("trouble()", x.trouble(), 0);
        CHECK.due("house(38)", x.house(38), -2);
        x.move(1, 38);
        CHECK.due("house(38), moved", x.house(38), 1);
        CHECK.due("house(0), left", x.house(0), -2);
        CHECK.refused(x, "house(40)", x.house(40), -1, 1);
        SeanceStreet two = Check.townOf(Towns.PAIR);
        CHECK.refused(two, "house(2) of two", two.house(2), -1, 1);
        CHECK.due("house(1) of two", two.house(1), 0);
    }

    private static void comesOut() {
        CHECK.by("9: Where a saying of a dead COMES OUT on a night (nobody needs to be there)");
        SeanceStreet x = Check.townOf(Texts.people(40, 100, 6) + Texts.dead(6, "drift", 1, "pa"));
        CHECK.due("comesOut(5, 39), lips are no matter", x.comesOut(5, 39), 39);
        CHECK.due("comesOut(5, 40), round", x.comesOut(5, 40), 0);
        CHECK.due("comesOut(5, 99), the last night", x.comesOut(5, 99), 19);
        CHECK.due("comesOut(5, 0)", x.comesOut(5, 0), 0);
    }

    private static void outIf() {
        CHECK.by("10: Where it would, aimed at a house");
        SeanceStreet x = Check.townOf("town houses 40 lips 0;person a house 3;dead x late slip 1 for a;"
            + "dead y early slip 1 for a;mirror y 0");
        CHECK.due("outIf(0, 39, 0)", x.outIf(0, 39, 0), 0);
        CHECK.due("outIf(0, 0, 99)", x.outIf(0, 0, 99), 1);
        CHECK.due("outIf(1, 0, 0), 39 by the mirror 0", x.outIf(1, 0, 0), 1);
        CHECK.due("outIf(1, 39, 0), 38 by the mirror 0", x.outIf(1, 39, 0), 2);
        CHECK.due("outIf(0, 3, 0), where he aims", x.outIf(0, 3, 0), x.comesOut(0, 0));
        CHECK.due("comesOut(0, 0), he aims where he did", x.comesOut(0, 0), 4);
    }

    private static void off() {
        CHECK.by("12: How many houses on from where it COMES OUT who HEARS it is (0: there)");
        SeanceStreet x = Check.townOf("town houses 40 lips 0;person a house 0;dead x late slip 0 for a");
        int[][] rows = {{0, 0}, {1, 39}, {2, 38}, {39, 1}};
        for (int[] row : rows) {
            x.teach(0, row[0]);
            CHECK.due("off(0, 0), slip " + row[0], x.off(0, 0), row[1]);
            CHECK.due("trouble()", x.trouble(), 0);
        }
    }

    private static void right() {
        CHECK.by("13: Sayings that are RIGHT on a night, as bits of dead");
        SeanceStreet all = Check.townOf(Texts.people(6, 0, 6) + Texts.dead(6, "drift", 1, "pd"));
        CHECK.due("right(0), all", all.right(0), 63);
        CHECK.due("right(1), none", all.right(1), 0);
        CHECK.due("right(96)", all.right(96), 63);
        CHECK.due("right(99)", all.right(99), 0);
        CHECK.due("right(0), no dead", Check.townOf(Towns.PAIR).right(0), 0);
    }

    private static void medium() {
        CHECK.by("14: The person who HEARS most on a night, the first such");
        SeanceStreet x = Check.townOf(Texts.people(6, 0, 6) + ";dead x late slip 0 for pf;dead y late slip 0 for pe");
        CHECK.due("medium(0), the first of two", x.medium(0), 4);
        x.teach(1, 1);
        CHECK.due("medium(0), the last person", x.medium(0), 5);
        CHECK.due("medium(99), no dead", Check.townOf(Towns.PAIR).medium(99), 0);
        SeanceStreet six = Check.townOf(Texts.people(6, 0, 6) + Texts.dead(6, "drift", 1, "pa"));
        for (int night = 0; night < 13; night++) {
            CHECK.due("medium(" + night + "), all six", six.medium(night), night % 6);
        }
    }

    private static void silent() {
        CHECK.by("15: People who HEAR nothing on a night, as bits");
        CHECK.due("silent(0), all", Check.townOf(Texts.people(6, 0, 6)).silent(0), 63);
        SeanceStreet six = Check.townOf(Texts.people(6, 0, 6) + Texts.dead(6, "drift", 1, "pa"));
        CHECK.due("silent(0)", six.silent(0), 62);
        CHECK.due("silent(5)", six.silent(5), 31);
        SeanceStreet none = Check.townOf("town houses 2 lips 0;person a house 0;dead x late slip 1 for a");
        CHECK.due("silent(0), nobody", none.silent(0), 0);
        CHECK.due("trouble()", none.trouble(), 0);
    }

    private static void whateverNightItIs() {
        CHECK.by("IV: Where a night is asked it is its number, 0 .. 99, whatever night it is NOW");
        SeanceStreet x = Check.townOf(Texts.people(6, 0, 6) + Texts.dead(1, "drift", 1, "pa"));
        for (int k = 0; k < 99; k++) {
            x.night();
        }
        CHECK.due("size(7)", x.size(7), 99);
        for (int night : new int[] {0, 1, 7, 98, 99}) {
            CHECK.due("comesOut(0, " + night + ")", x.comesOut(0, night), night % 6);
            CHECK.due("hears(0, " + night + ")", x.hears(0, night), night % 6);
            CHECK.due("outIf(0, 1, " + night + ")", x.outIf(0, 1, night), (night + 1) % 6);
            CHECK.due("right(" + night + ")", x.right(night), night % 6 == 0 ? 1 : 0);
            CHECK.due("rightFrom(0, " + night + ")", x.rightFrom(0, night), night > 96 ? -2 : (night + 5) / 6 * 6);
        }
        CHECK.refused(x, "right(100)", x.right(100), -1, 2);
        CHECK.due("person(3, 2), on the night NOW", x.person(3, 2), 1);
        CHECK.due("person(0, 2), on the night NOW", x.person(0, 2), 0);
    }
}
