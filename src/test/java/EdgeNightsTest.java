/** Promises 16 to 26 at their bounds, a method for each sentence that names one. */
public final class EdgeNightsTest {
    private static final Check CHECK = new Check("EdgeNightsTest");

    /**
     * a hears 0 alone, b all else of 39 houses. x goes a house on each night and, by the mirror 19, comes out at 38 less
     * the night: it is right on nights 38 and 77.
     */
    private static final String ONE_OF_39 = "town houses 39 lips 0;person a house 0;person b house 38;"
        + "dead x drift slip 1 for a;mirror x 19";

    public static void main(String[] args) {
        rightFrom();
        nightsOf();
        roundOfLateAndEarly();
        roundOfDrift();
        roundOfSwing();
        roundWithMirror();
        bestNight();
        perfect();
        together();
        aimFor();
        aims();
        mirrorFor();
        mirrorBest();
        slipFor();
        CHECK.end();
    }

    private static void rightFrom() {
        CHECK.by("16: The first night from one on (0 .. 99; to 99) on which a saying is RIGHT; -2");
        SeanceStreet x = Check.townOf(ONE_OF_39);
        int[][] rows = {{0, 38}, {37, 38}, {38, 38}, {39, 77}, {77, 77}, {78, -2}, {99, -2}};
        for (int[] row : rows) {
            CHECK.due("rightFrom(0, " + row[0] + ")", x.rightFrom(0, row[0]), row[1]);
            CHECK.due("trouble()", x.trouble(), 0);
        }
        SeanceStreet odd = Check.townOf("town houses 4 lips 0;person a house 0;person b house 3;person c house 1;"
            + "dead x swing slip 1 for c;mirror x 1;dead y drift slip 2 for b;mirror y 2");
        // x is at 0 or 2 and c hears 1 alone; y is at 1, and at 3 on odd nights.
        CHECK.due("rightFrom(0, 0), on none", odd.rightFrom(0, 0), -2);
        CHECK.due("rightFrom(1, 98)", odd.rightFrom(1, 98), 99);
        CHECK.due("rightFrom(1, 99), the last night", odd.rightFrom(1, 99), 99);
    }

    private static void nightsOf() {
        CHECK.by("17: On how many nights, 0 .. 99, a person HEARS a dead");
        SeanceStreet x = Check.townOf(ONE_OF_39 + ";dead y late slip 0 for b");
        CHECK.due("nightsOf(0, 0)", x.nightsOf(0, 0), 2);
        CHECK.due("nightsOf(1, 0)", x.nightsOf(1, 0), 98);
        CHECK.due("nightsOf(1, 1), all", x.nightsOf(1, 1), 100);
        CHECK.due("nightsOf(0, 1), none", x.nightsOf(0, 1), 0);
        CHECK.due("trouble()", x.trouble(), 0);
        SeanceStreet first = Check.townOf("town houses 39 lips 0;person a house 0;person b house 38;"
            + "dead x drift slip 1 for a");
        CHECK.due("nightsOf(0, 0), night 0 too", first.nightsOf(0, 0), 3);
        SeanceStreet last = Check.townOf("town houses 33 lips 0;person a house 0;person b house 32;"
            + "dead x drift slip 1 for a");
        CHECK.due("nightsOf(0, 0), night 99 too", last.nightsOf(0, 0), 4);
    }

    private static int roundOf(int houses, String law, int slip) {
        return Check.townOf("town houses " + houses + " lips 0;person a house 1;dead x " + law + " slip " + slip
            + " for a").round(0);
    }

    private static void roundOfLateAndEarly() {
        CHECK.by("18: The least number of nights (1 ..) .. COMES OUT where it does, on whatever night (late, early)");
        for (int slip : new int[] {0, 1, 39}) {
            CHECK.due("late " + slip, roundOf(40, "late", slip), 1);
            CHECK.due("early " + slip, roundOf(40, "early", slip), 1);
        }
    }

    private static void roundOfDrift() {
        CHECK.by("18: (drift)");
        int[][] rows = {{40, 0, 1}, {40, 1, 40}, {40, 39, 40}, {40, 20, 2}, {40, 38, 20}, {40, 5, 8}, {39, 39, 1},
            {39, 38, 39}, {2, 1, 2}, {2, 39, 2}, {2, 38, 1}, {3, 39, 1}, {3, 38, 3}, {20, 39, 20}, {13, 39, 1}};
        for (int[] row : rows) {
            CHECK.due("drift " + row[1] + " of " + row[0], roundOf(row[0], "drift", row[1]), row[2]);
        }
    }

    private static void roundOfSwing() {
        CHECK.by("18: (swing)");
        int[][] rows = {{40, 0, 1}, {40, 20, 1}, {40, 19, 2}, {40, 39, 2}, {2, 1, 1}, {2, 39, 1}, {2, 38, 1}, {3, 1, 2},
            {3, 39, 1}, {26, 39, 1}, {39, 39, 1}, {39, 13, 2}};
        for (int[] row : rows) {
            CHECK.due("swing " + row[1] + " of " + row[0], roundOf(row[0], "swing", row[1]), row[2]);
        }
    }

    private static void roundWithMirror() {
        CHECK.by("18: (by a mirror; of the slip NOW)");
        SeanceStreet x = Check.townOf(ONE_OF_39);
        CHECK.due("round(0)", x.round(0), 39);
        x.teach(0, 13);
        CHECK.due("round(0), slip 13", x.round(0), 3);
        x.take(0);
        CHECK.due("round(0), no mirror", x.round(0), 3);
        x.teach(0, 0);
        CHECK.due("round(0), slip 0", x.round(0), 1);
    }

    private static void bestNight() {
        CHECK.by("19: The first night, 0 .. 99, on which most are RIGHT");
        CHECK.due("bestNight(), not the first night", Check.townOf(ONE_OF_39).bestNight(), 38);
        CHECK.due("bestNight(), no dead", Check.townOf(Towns.PAIR).bestNight(), 0);
        CHECK.due("bestNight(), all nights alike", Check.townOf(Texts.people(6, 0, 6)
            + Texts.dead(6, "late", 0, "pa")).bestNight(), 0);
        // Right on no night at all: the first of like ones.
        CHECK.due("bestNight(), never right", Check.townOf("town houses 2 lips 0;person a house 0;person b house 1;"
            + "dead x late slip 1 for a").bestNight(), 0);
        CHECK.due("bestNight(), 2 by night 38 more than 1", Check.townOf(ONE_OF_39 + ";dead y late slip 0 for b")
            .bestNight(), 38);
    }

    private static void perfect() {
        CHECK.by("20: On how many nights, 0 .. 99, all sayings are RIGHT (all nights, if there is no dead)");
        CHECK.due("perfect(), no dead", Check.townOf(Towns.PAIR).perfect(), 100);
        CHECK.due("perfect(), two nights", Check.townOf(ONE_OF_39).perfect(), 2);
        CHECK.due("perfect(), all but one of the sayings", Check.townOf(Texts.people(2, 0, 2)
            + Texts.dead(5, "late", 0, "pa") + ";dead x late slip 1 for pa").perfect(), 0);
        CHECK.due("perfect(), all six each night", Check.townOf(Texts.people(6, 0, 6)
            + Texts.dead(6, "late", 0, "pa")).perfect(), 100);
        CHECK.due("perfect(), night 99 too", Check.townOf("town houses 33 lips 0;person a house 0;person b house 32;"
            + "dead x drift slip 1 for a").perfect(), 4);
    }

    private static void together() {
        CHECK.by("21: The first night, 0 .. 99, on which two dead are HEARD by one person; -2");
        SeanceStreet x = Check.townOf(ONE_OF_39 + ";dead y late slip 0 for a;dead z late slip 1 for a;"
            + "dead w late slip 0 for b");
        CHECK.due("together(0, 1)", x.together(0, 1), 38);
        CHECK.due("together(1, 0)", x.together(1, 0), 38);
        CHECK.due("together(0, 2), the first night", x.together(0, 2), 0);
        CHECK.due("together(1, 2), never", x.together(1, 2), -2);
        CHECK.due("trouble()", x.trouble(), 0);
        CHECK.due("together(2, 3), for others, heard by one", x.together(2, 3), 0);
        CHECK.by("21: NONE: 1 (unlike)");
        for (int d = 0; d < 4; d++) {
            CHECK.refused(x, "together(" + d + ", " + d + ")", x.together(d, d), -1, 1);
        }
    }

    private static void aimFor() {
        CHECK.by("22: The first house, by numbers, at which a dead should aim on a night that a person HEARS it");
        SeanceStreet x = Check.townOf("town houses 40 lips 0;person a house 0;person b house 39;"
            + "dead x late slip 1 for a;dead y early slip 1 for b");
        CHECK.due("aimFor(0, 0, 0), the last house", x.aimFor(0, 0, 0), 39);
        CHECK.due("aims(0, 0, 0), that alone", x.aims(0, 0, 0), 1);
        CHECK.due("aimFor(0, 1, 0), the first", x.aimFor(0, 1, 0), 0);
        CHECK.due("aimFor(1, 0, 0)", x.aimFor(1, 0, 0), 1);
        CHECK.due("aimFor(1, 1, 0), round", x.aimFor(1, 1, 0), 0);
        x.hang(0, 0);
        // By the mirror 0 it comes out at 39 less the aim.
        CHECK.due("aimFor(0, 0, 0), by a mirror", x.aimFor(0, 0, 0), 39);
        CHECK.due("aimFor(0, 1, 0), by a mirror", x.aimFor(0, 1, 0), 0);
        CHECK.by("22: all else being as NOW");
        x.take(0);
        x.teach(0, 0);
        x.move(1, 20);
        CHECK.due("aimFor(0, 0, 0)", x.aimFor(0, 0, 0), 0);
        CHECK.due("aimFor(0, 1, 0)", x.aimFor(0, 1, 0), 1);
        CHECK.due("aims(0, 1, 0)", x.aims(0, 1, 0), 20);
        CHECK.due("aims(0, 0, 0)", x.aims(0, 0, 0), 20);
    }

    private static void aims() {
        CHECK.by("23: At how many houses he may aim for that");
        SeanceStreet one = Check.townOf("town houses 40 lips 0;person a house 7;dead x drift slip 3 for a;mirror x 1");
        CHECK.due("aims(0, 0, 99), all", one.aims(0, 0, 99), 40);
        CHECK.due("aimFor(0, 0, 99)", one.aimFor(0, 0, 99), 0);
        SeanceStreet six = Check.townOf(Texts.people(40, 0, 6) + ";dead x late slip 39 for pa");
        int[] due = {35, 1, 1, 1, 1, 1};
        for (int p = 0; p < 6; p++) {
            CHECK.due("aims(0, " + p + ", 0)", six.aims(0, p, 0), due[p]);
            CHECK.due("aimFor(0, " + p + ", 0)", six.aimFor(0, p, 0), p == 0 ? 0 : p + 1);
        }
        SeanceStreet two = Check.townOf("town houses 2 lips 0;person a house 0;person b house 1;dead x late slip 1 for a");
        CHECK.due("aimFor(0, 0, 0) of two", two.aimFor(0, 0, 0), 1);
        CHECK.due("aims(0, 1, 0) of two", two.aims(0, 1, 0), 1);
    }

    private static void mirrorFor() {
        CHECK.by("24: The first house for a mirror of a dead (in place of the one he has) by which he is RIGHT; -2");
        // By a mirror at m: 2 m less 1, odd; a hears 0 alone of an even ring.
        SeanceStreet none = Check.townOf("town houses 40 lips 0;person a house 0;person b house 39;"
            + "dead x late slip 1 for a;mirror x 0");
        CHECK.due("mirrorFor(0, 0), by none", none.mirrorFor(0, 0), -2);
        CHECK.due("trouble()", none.trouble(), 0);
        CHECK.due("dead(0, 3), his own stays", none.dead(0, 3), 0);
        none.teach(0, 0);
        CHECK.due("mirrorFor(0, 0), the first house", none.mirrorFor(0, 0), 0);
        none.teach(0, 38);
        CHECK.due("mirrorFor(0, 0), of two across", none.mirrorFor(0, 0), 19);
        // In an odd ring the last house may be the only one: 2 m is 76, 37 of 39.
        SeanceStreet last = Check.townOf("town houses 39 lips 0;person a house 0;person b house 38;"
            + "dead x late slip 37 for a");
        CHECK.due("mirrorFor(0, 0), the last house", last.mirrorFor(0, 0), 38);
        SeanceStreet right = Check.townOf("town houses 4 lips 0;person a house 0;person b house 3;dead x late slip 0 for a");
        CHECK.due("mirrorFor(0, 0), right without one too", right.mirrorFor(0, 0), 0);
    }

    private static void mirrorBest() {
        CHECK.by("25: That by which he is RIGHT on most nights, 0 .. 99, the first such");
        SeanceStreet none = Check.townOf("town houses 40 lips 0;person a house 0;person b house 39;"
            + "dead x late slip 1 for a;mirror x 7");
        CHECK.due("mirrorBest(0), right on no night", none.mirrorBest(0), 0);
        CHECK.due("trouble()", none.trouble(), 0);
        SeanceStreet last = Check.townOf("town houses 39 lips 0;person a house 0;person b house 38;"
            + "dead x late slip 37 for a");
        CHECK.due("mirrorBest(0), the last house", last.mirrorBest(0), 38);
        // Right when 2 m is the night, of 33: four nights, 0, 33, 66 and 99, for m 0, and three for any other.
        SeanceStreet four = Check.townOf("town houses 33 lips 0;person a house 0;person b house 32;"
            + "dead x drift slip 1 for a;mirror x 5");
        CHECK.due("mirrorBest(0), by nights 0 and 99", four.mirrorBest(0), 0);
        // Right when 2 m less 10 is the night, of 33: four nights for m 5, the last of them 99.
        SeanceStreet five = Check.townOf("town houses 33 lips 0;person a house 5;person b house 4;"
            + "dead x drift slip 1 for a");
        CHECK.due("mirrorBest(0), by night 99", five.mirrorBest(0), 5);
        // A slip of 32 is one back: right when 2 m and the night are 33 or 0.
        SeanceStreet back = Check.townOf("town houses 33 lips 0;person a house 0;person b house 32;"
            + "dead x drift slip 32 for a");
        CHECK.due("mirrorBest(0), back", back.mirrorBest(0), 0);
        SeanceStreet swing = Check.townOf("town houses 40 lips 0;person a house 0;person b house 39;"
            + "dead x swing slip 2 for a");
        // 2 m is 2 on even nights, 38 on odd ones: m 1 or 21, 19 or 39, for half of the nights each.
        CHECK.due("mirrorBest(0), the first of like ones", swing.mirrorBest(0), 1);
    }

    private static void slipFor() {
        CHECK.by("26: The least slip (0 .. 39) by which, with the mirror he has, he is RIGHT on a night; -2");
        SeanceStreet x = Check.townOf("town houses 40 lips 0;person a house 0;person b house 39;"
            + "dead x late slip 5 for a");
        CHECK.due("slipFor(0, 0)", x.slipFor(0, 0), 0);
        x.hang(0, 19);
        CHECK.due("slipFor(0, 0), by the mirror 19", x.slipFor(0, 0), 38);
        CHECK.due("dead(0, 1), his own stays", x.dead(0, 1), 5);
        SeanceStreet drift = Check.townOf("town houses 40 lips 0;person a house 0;person b house 39;"
            + "dead x drift slip 5 for a;mirror x 1");
        CHECK.due("slipFor(0, 0), no slip on night 0", drift.slipFor(0, 0), -2);
        CHECK.due("trouble()", drift.trouble(), 0);
        CHECK.due("slipFor(0, 1)", drift.slipFor(0, 1), 2);
        CHECK.due("slipFor(0, 99): 99 times 38 is 2 of 40", drift.slipFor(0, 99), 38);
        CHECK.due("slipFor(0, 20), 20 times any is 0 or 20", drift.slipFor(0, 20), -2);
        CHECK.due("slipFor(0, 0), without a mirror", Check.townOf("town houses 2 lips 0;person a house 0;"
            + "person b house 1;dead x late slip 1 for a").slipFor(0, 0), 0);
    }
}
