/** Promises 32 to 36: what is brought where it is for, steps, rings. */
public final class BringTest {
    private static final Check CHECK = new Check("BringTest");
    private static final String THREE = "town houses 20 lips 0;person a house 0;person b house 5;person c house 12";

    public static void main(String[] args) {
        one();
        toAndFro();
        nothing();
        roundTheRing();
        steps();
        rings();
        wrong();
        withoutTown();
        CHECK.end();
    }

    private static void one() {
        SeanceStreet x = Check.townOf(THREE + ";dead x late slip 5 for a");
        CHECK.due("bring(5, 0)", x.bring(5, 0), 5);
        CHECK.due("bring(0, 0), whom it is for is no start", x.bring(0, 0), 10);
        CHECK.due("bring(12, 0)", x.bring(12, 0), 12);
        CHECK.due("bring(19, 0)", x.bring(19, 0), 11);
        CHECK.due("bringFrom(0)", x.bringFrom(0), 5);
    }

    private static void toAndFro() {
        SeanceStreet x = Check.townOf(THREE + ";dead x late slip 5 for a;dead y early slip 5 for b");
        CHECK.due("bring(5, 0)", x.bring(5, 0), 10);
        CHECK.due("bring(0, 0)", x.bring(0, 0), 10);
        CHECK.due("bring(3, 0)", x.bring(3, 0), 12);
        CHECK.due("bring(2, 0)", x.bring(2, 0), 12);
        CHECK.due("bringFrom(0), the first of two", x.bringFrom(0), 0);
    }

    private static void nothing() {
        SeanceStreet x = Check.townOf(THREE + ";dead x late slip 0 for a;dead y early slip 1 for b");
        CHECK.due("right(0)", x.right(0), 3);
        CHECK.due("bring(9, 0)", x.bring(9, 0), 0);
        CHECK.due("bringFrom(0)", x.bringFrom(0), 0);
        CHECK.due("bring(1, 99), no dead", Check.townOf(Towns.PAIR).bring(1, 99), 0);
        CHECK.due("trouble()", x.trouble(), 0);
    }

    /** Six people two houses apart, each hears the next one's: once round, and what is fetched first is brought last. */
    private static void roundTheRing() {
        StringBuilder text = new StringBuilder("town houses 12 lips 0");
        for (int p = 0; p < 6; p++) {
            text.append(";person ").append("abcdef".charAt(p)).append(" house ").append(2 * p);
        }
        for (int d = 0; d < 6; d++) {
            text.append(";dead ").append("uvwxyz".charAt(d)).append(" late slip 2 for ").append("abcdef".charAt(d));
        }
        SeanceStreet x = Check.townOf(text.toString());
        CHECK.due("hears(5, 0)", x.hears(5, 0), 0);
        // p + 1 hears what is for p: twelve steps back round, and all is brought where one comes again.
        CHECK.due("bring(0, 0)", x.bring(0, 0), 12);
        CHECK.due("bring(1, 0)", x.bring(1, 0), 13);
        CHECK.due("bringFrom(0)", x.bringFrom(0), 0);
        CHECK.due("ring(0, 0)", x.ring(0, 0), 6);
        for (int i = 0; i < 6; i++) {
            CHECK.due("ringAt(0, 0, " + i + ")", x.ringAt(0, 0, i), i);
            CHECK.due("ringAt(4, 0, " + i + ")", x.ringAt(4, 0, i), (4 + i) % 6);
        }
        CHECK.refused(x, "ringAt(0, 0, 6)", x.ringAt(0, 0, 6), -1, 1);
    }

    private static void steps() {
        SeanceStreet x = Check.townOf(THREE);
        int[][] rows = {{0, 19, 1}, {19, 0, 1}, {0, 10, 10}, {10, 0, 10}, {0, 11, 9}, {3, 3, 0}, {4, 9, 5}, {17, 2, 5}};
        for (int[] row : rows) {
            CHECK.due("steps(" + row[0] + ", " + row[1] + ")", x.steps(row[0], row[1]), row[2]);
        }
        CHECK.due("steps(0, 2), an odd ring",
            Check.townOf("town houses 3 lips 0;person a house 0").steps(0, 2), 1);
        CHECK.refused(x, "steps(0, 20)", x.steps(0, 20), -1, 1);
        CHECK.refused(x, "steps(20, 0)", x.steps(20, 0), -1, 1);
        CHECK.refused(x, "steps(-1, 0)", x.steps(-1, 0), -1, 1);
    }

    private static void rings() {
        SeanceStreet x = Check.townOf(THREE + ";dead x late slip 5 for a;dead y early slip 5 for b;"
            + "dead z late slip 0 for a");
        CHECK.due("ring(0, 0), by the first dead for him", x.ring(0, 0), 2);
        CHECK.due("ring(1, 0)", x.ring(1, 0), 2);
        CHECK.due("ring(2, 0), nobody dead is for him", x.ring(2, 0), -2);
        CHECK.due("trouble()", x.trouble(), 0);
        CHECK.due("ringAt(0, 0, 0)", x.ringAt(0, 0, 0), 0);
        CHECK.due("ringAt(0, 0, 1)", x.ringAt(0, 0, 1), 1);
        CHECK.due("ringAt(1, 0, 1)", x.ringAt(1, 0, 1), 0);
        CHECK.refused(x, "ringAt(0, 0, 2)", x.ringAt(0, 0, 2), -1, 1);
        CHECK.refused(x, "ringAt(0, 0, -1)", x.ringAt(0, 0, -1), -1, 1);
        CHECK.refused(x, "ringAt(2, 0, 0), it doesn't come back", x.ringAt(2, 0, 0), -1, 1);
        SeanceStreet own = Check.townOf(THREE + ";dead x late slip 5 for a;dead y late slip 0 for b;"
            + "dead z late slip 8 for c");
        CHECK.due("ring(1, 0), he hears his own", own.ring(1, 0), 1);
        CHECK.due("ring(0, 0), caught at another's", own.ring(0, 0), -2);
        CHECK.due("ring(2, 0), to one who never comes back", own.ring(2, 0), -2);
    }

    private static void wrong() {
        SeanceStreet x = Check.townOf(THREE + ";dead x late slip 5 for a");
        CHECK.refused(x, "bring(20, 0)", x.bring(20, 0), -1, 1);
        CHECK.refused(x, "bring(-1, 0)", x.bring(-1, 0), -1, 1);
        CHECK.refused(x, "bring(0, 100)", x.bring(0, 100), -1, 2);
        CHECK.refused(x, "bringFrom(-1)", x.bringFrom(-1), -1, 2);
        CHECK.refused(x, "ring(3, 0)", x.ring(3, 0), -1, 1);
        CHECK.refused(x, "ring(0, 100)", x.ring(0, 100), -1, 2);
        CHECK.refused(x, "ringAt(3, 0, 0)", x.ringAt(3, 0, 0), -1, 1);
        CHECK.refused(x, "ringAt(0, 100, 0)", x.ringAt(0, 100, 0), -1, 2);
    }

    private static void withoutTown() {
        SeanceStreet x = new SeanceStreet();
        CHECK.refused(x, "bring(0, 0)", x.bring(0, 0), -1, 1);
        CHECK.refused(x, "bringFrom(0)", x.bringFrom(0), -1, 1);
        CHECK.refused(x, "steps(0, 0)", x.steps(0, 0), -1, 1);
        CHECK.refused(x, "ring(0, 0)", x.ring(0, 0), -1, 1);
        CHECK.refused(x, "ringAt(0, 0, 0)", x.ringAt(0, 0, 0), -1, 1);
    }
}
