/** Promises 37 to 43: which slips fit what was heard, and of whom to ask. */
public final class UnsureTest {
    private static final Check CHECK = new Check("UnsureTest");

    /** b hears 1 to 4, c 5 to 7, a the rest. x comes out at 1 (or 5), y at 5 (or 7), z at 7. y is the first unsure one. */
    private static final String THREE = "town houses 10 lips 0;person a house 0;person b house 4;person c house 7;"
        + "dead x late slip 1 for a;dead y late slip 1 for b;dead z early slip 0 for c;unsure y 3;unsure x 5";

    public static void main(String[] args) {
        nothingHeard();
        oneHeard();
        noneFits();
        asTold();
        fourUnsure();
        noUnsure();
        withoutTown();
        CHECK.end();
    }

    private static void all(String text, int[] sets, int could, int surely, int ask, int leaves, int judge) {
        SeanceStreet x = Check.townOf(text);
        due(x, text, sets, could, surely, ask, leaves, judge);
    }

    private static void due(SeanceStreet x, String text, int[] sets, int could, int surely, int... askLeavesJudge) {
        CHECK.due("fits(): " + text, x.fits(), sets.length);
        for (int i = 0; i < sets.length; i++) {
            CHECK.due("fitAt(" + i + "): " + text, x.fitAt(i), sets[i]);
        }
        CHECK.refused(x, "fitAt(" + sets.length + "): " + text, x.fitAt(sets.length), -1, 1);
        CHECK.refused(x, "fitAt(-1): " + text, x.fitAt(-1), -1, 1);
        CHECK.due("could(): " + text, x.could(), could);
        CHECK.due("surely(): " + text, x.surely(), surely);
        CHECK.due("ask(): " + text, x.ask(), askLeavesJudge[0]);
        CHECK.due("askLeaves(): " + text, x.askLeaves(), askLeavesJudge[1]);
        CHECK.due("judge(): " + text, x.judge(), askLeavesJudge[2]);
        CHECK.due("trouble(): " + text, x.trouble(), 0);
    }

    private static void nothingHeard() {
        all(THREE, new int[] {0, 1, 2, 3}, 3, 0, 0, 2, -2);
    }

    private static void oneHeard() {
        all(THREE + ";heard c x night 0", new int[] {2, 3}, 3, 2, 0, 1, 0);
        all(THREE + ";heard b x night 0", new int[] {0, 1}, 1, 0, 0, 1, -2);
        all(THREE + ";heard c y night 7;heard b x night 9;heard c z night 60", new int[] {0, 1}, 1, 0, 0, 1, -2);
        // y is sure to be one way by no night: both ways c hears him. x is asked second, but he leaves fewer.
        all(THREE.replace("unsure y 3", "unsure y 9") + ";heard c y night 0", new int[] {0, 2}, 2, 0, 1, 1, -2);
    }

    private static void noneFits() {
        all(THREE + ";heard c z night 3;heard c x night 4;heard a z night 4", new int[] {}, 0, 0, -2, -2, 1);
        all(THREE + ";heard c z night 3;heard a z night 4", new int[] {}, 0, 0, -2, -2, 1);
    }

    /** Acts change nothing of it. */
    private static void asTold() {
        String text = THREE + ";mirror z 2;heard c x night 0;heard a z night 1";
        SeanceStreet x = Check.townOf(text);
        // z at 7 by the mirror 2: at 7, c; so a didn't hear it.
        due(x, text, new int[] {}, 0, 0, -2, -2, 0);
        text = THREE + ";mirror z 4;heard c x night 0;heard b z night 1";
        x = Check.townOf(text);
        due(x, text, new int[] {2, 3}, 3, 2, 0, 1, 0);
        x.take(2);
        x.hang(1, 9);
        x.move(2, 5);
        x.move(0, 2);
        x.teach(0, 5);
        x.teach(1, 20);
        x.night();
        due(x, text + ", acts", new int[] {2, 3}, 3, 2, 0, 1, 0);
    }

    /** Each saying of four that drift tells his own; the one that isn't heard is left. */
    private static void fourUnsure() {
        String text = "town houses 4 lips 0;person a house 0;person b house 1;person c house 2;person d house 3;"
            + "dead p drift slip 1 for a;dead q drift slip 1 for a;dead r drift slip 1 for a;dead s drift slip 1 for a;"
            + "unsure s 2;unsure r 2;unsure q 2;unsure p 2";
        all(text, new int[] {0, 1, 2, 3, 4, 5, 6, 7, 8, 9, 10, 11, 12, 13, 14, 15}, 15, 0, 0, 8, -2);
        all(text + ";heard c p night 1;heard b q night 1;heard a r night 0;heard c s night 1",
            new int[] {9, 11}, 11, 9, 1, 1, 0);
        // On even nights both slips may be told apart, on those of fours they can't.
        all(text + ";heard a p night 4;heard c q night 2;heard a s night 2;heard c r night 2",
            new int[] {1, 9}, 9, 1, 3, 1, 2);
    }

    private static void noUnsure() {
        String text = "town houses 10 lips 0;person a house 0;person b house 4;dead x late slip 1 for a";
        all(text, new int[] {0}, 0, 0, -2, -2, -2);
        all(text + ";heard b x night 0", new int[] {0}, 0, 0, -2, -2, -2);
        all(text + ";heard b x night 0;heard a x night 1", new int[] {}, 0, 0, -2, -2, 1);
        all(text + ";unsure x 1", new int[] {0, 1}, 1, 0, 0, 1, -2);
        all(Towns.PAIR, new int[] {0}, 0, 0, -2, -2, -2);
    }

    private static void withoutTown() {
        SeanceStreet x = new SeanceStreet();
        CHECK.refused(x, "fits()", x.fits(), -1, 1);
        CHECK.refused(x, "fitAt(0)", x.fitAt(0), -1, 1);
        CHECK.refused(x, "could()", x.could(), -1, 1);
        CHECK.refused(x, "surely()", x.surely(), -1, 1);
        CHECK.refused(x, "ask()", x.ask(), -1, 1);
        CHECK.refused(x, "askLeaves()", x.askLeaves(), -1, 1);
        CHECK.refused(x, "judge()", x.judge(), -1, 1);
    }
}
