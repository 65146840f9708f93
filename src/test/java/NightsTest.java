/** Promises 16 to 21: night by night. */
public final class NightsTest {
    private static final Check CHECK = new Check("NightsTest");

    public static void main(String[] args) {
        rightFrom();
        nightsOf();
        round();
        bestAndPerfect();
        together();
        withoutTown();
        CHECK.end();
    }

    /** w is right on nights 0, 2, 7 and 9 of each twelve. */
    private static void rightFrom() {
        SeanceStreet x = Check.townOf(Towns.FOUR);
        int[][] rows = {{0, 0}, {1, 2}, {2, 2}, {3, 7}, {8, 9}, {10, 12}, {98, 98}, {99, -2}};
        for (int[] row : rows) {
            CHECK.due("rightFrom(2, " + row[0] + ")", x.rightFrom(2, row[0]), row[1]);
        }
        CHECK.due("trouble(), -2 is no refusal", x.trouble(), 0);
        CHECK.due("rightFrom(0, 0)", x.rightFrom(0, 0), -2);
        CHECK.due("rightFrom(4, 99)", x.rightFrom(4, 99), 99);
        CHECK.refused(x, "rightFrom(5, 0)", x.rightFrom(5, 0), -1, 1);
        CHECK.refused(x, "rightFrom(-1, 100)", x.rightFrom(-1, 100), -1, 1);
        CHECK.refused(x, "rightFrom(0, 100)", x.rightFrom(0, 100), -1, 2);
        CHECK.refused(x, "rightFrom(0, -1)", x.rightFrom(0, -1), -1, 2);
    }

    private static void nightsOf() {
        SeanceStreet x = Check.townOf(Towns.FOUR);
        int[][] due = {{0, 100, 17, 0, 100}, {0, 0, 24, 50, 0}, {100, 0, 34, 50, 0}, {0, 0, 25, 0, 0}};
        for (int p = 0; p < 4; p++) {
            for (int d = 0; d < 5; d++) {
                CHECK.due("nightsOf(" + p + ", " + d + ")", x.nightsOf(p, d), due[p][d]);
            }
        }
        CHECK.refused(x, "nightsOf(4, 0)", x.nightsOf(4, 0), -1, 1);
        CHECK.refused(x, "nightsOf(0, 5)", x.nightsOf(0, 5), -1, 1);
        CHECK.refused(x, "nightsOf(-1, 0)", x.nightsOf(-1, 0), -1, 1);
    }

    private static void round() {
        SeanceStreet x = Check.townOf(Towns.FOUR);
        int[] due = {1, 1, 12, 2, 1};
        for (int d = 0; d < 5; d++) {
            CHECK.due("round(" + d + ")", x.round(d), due[d]);
        }
        int[][] drift = {{8, 3}, {0, 1}, {12, 1}, {24, 1}, {6, 2}, {9, 4}, {39, 4}, {1, 12}, {10, 6}};
        for (int[] row : drift) {
            x.teach(2, row[0]);
            CHECK.due("round(2), slip " + row[0], x.round(2), row[1]);
        }
        int[][] swing = {{6, 1}, {0, 1}, {18, 1}, {12, 1}, {5, 2}, {39, 2}};
        for (int[] row : swing) {
            x.teach(3, row[0]);
            CHECK.due("round(3), slip " + row[0], x.round(3), row[1]);
        }
        CHECK.refused(x, "round(5)", x.round(5), -1, 1);
        CHECK.refused(x, "round(-1)", x.round(-1), -1, 1);
        SeanceStreet odd = Check.townOf("town houses 39 lips 0;person a house 0;dead s swing slip 13 for a;"
            + "dead d drift slip 38 for a");
        CHECK.due("round(0), an odd ring", odd.round(0), 2);
        CHECK.due("round(1)", odd.round(1), 39);
    }

    private static void bestAndPerfect() {
        SeanceStreet x = Check.townOf(Towns.FOUR);
        CHECK.due("bestNight()", x.bestNight(), 0);
        CHECK.due("perfect()", x.perfect(), 0);
        SeanceStreet late = Check.townOf("town houses 5 lips 0;person a house 0;person b house 4;"
            + "dead d drift slip 2 for a;dead e late slip 0 for b;mirror d 4");
        // At twice the night, by the mirror at 8 less that: at 3, 1, 4, 2, 0, and a hears 0 alone.
        CHECK.due("bestNight(), not the first", late.bestNight(), 4);
        CHECK.due("perfect()", late.perfect(), 20);
        SeanceStreet none = Check.townOf(Towns.PAIR);
        CHECK.due("bestNight(), no dead", none.bestNight(), 0);
        CHECK.due("perfect(), no dead", none.perfect(), 100);
        SeanceStreet all = Check.townOf("town houses 5 lips 0;person a house 0;dead d drift slip 2 for a");
        CHECK.due("perfect(), who is alone hears all", all.perfect(), 100);
    }

    private static void together() {
        SeanceStreet x = Check.townOf(Towns.FOUR);
        CHECK.due("together(0, 2)", x.together(0, 2), 0);
        CHECK.due("together(0, 3)", x.together(0, 3), 1);
        CHECK.due("together(3, 0)", x.together(3, 0), 1);
        CHECK.due("together(1, 2)", x.together(1, 2), 1);
        CHECK.due("together(2, 3)", x.together(2, 3), 4);
        CHECK.due("together(0, 1)", x.together(0, 1), -2);
        CHECK.due("trouble()", x.trouble(), 0);
        CHECK.refused(x, "together(0, 0)", x.together(0, 0), -1, 1);
        CHECK.refused(x, "together(0, 5)", x.together(0, 5), -1, 1);
        CHECK.refused(x, "together(5, 0)", x.together(5, 0), -1, 1);
    }

    private static void withoutTown() {
        SeanceStreet x = new SeanceStreet();
        CHECK.refused(x, "rightFrom(0, 0)", x.rightFrom(0, 0), -1, 1);
        CHECK.refused(x, "nightsOf(0, 0)", x.nightsOf(0, 0), -1, 1);
        CHECK.refused(x, "round(0)", x.round(0), -1, 1);
        CHECK.refused(x, "bestNight()", x.bestNight(), -1, 1);
        CHECK.refused(x, "perfect()", x.perfect(), -1, 1);
        CHECK.refused(x, "together(0, 1)", x.together(0, 1), -1, 1);
    }
}
