/** Promises 52 to 62, ACTS, UNDO, IMAGES and TROUBLE, at their bounds, a method for each sentence that names one. */
public final class EdgeActsTest {
    private static final Check CHECK = new Check("EdgeActsTest");

    /** In a full ring of six x drifts, so that he is heard by the person of the night's number. */
    private static final String DRIFT = Texts.people(6, 0, 6) + ";dead x drift slip 1 for pa";

    public static void main(String[] args) {
        nights();
        noNightAbove();
        moves();
        noMoveToSomebody();
        hangs();
        takes();
        teaches();
        undo();
        undoOfNone();
        sixteenAreKept();
        sixteenOfAllSorts();
        refusedActs();
        images();
        noFourthImage();
        back();
        nothingToUndoBehindBack();
        allImagesStay();
        imagesAreAsTaken();
        led();
        sizes();
        noOtherSize();
        sizeWithoutTown();
        trouble();
        callsThatAreNeverRefused();
        CHECK.end();
    }

    private static void nights() {
        CHECK.by("52: NIGHT: sayings that are RIGHT in it, as bits (III: the next one; at first it is 0)");
        SeanceStreet x = Check.townOf(DRIFT);
        CHECK.due("size(7), at first", x.size(7), 0);
        for (int night = 1; night <= 99; night++) {
            CHECK.due("night() " + night, x.night(), night % 6 == 0 ? 1 : 0);
        }
        CHECK.due("trouble()", x.trouble(), 0);
        CHECK.due("size(7), the last", x.size(7), 99);
        SeanceStreet all = Check.townOf(Texts.people(6, 0, 6) + Texts.dead(6, "late", 0, "pa"));
        CHECK.due("night(), all", all.night(), 63);
        CHECK.due("night(), no dead", Check.townOf(Towns.PAIR).night(), 0);
    }

    private static void noNightAbove() {
        CHECK.by("52: NONE: 3 (it would be above 99)");
        SeanceStreet x = Check.townOf(DRIFT);
        for (int night = 1; night <= 99; night++) {
            x.night();
        }
        for (int k = 0; k < 2; k++) {
            CHECK.refused(x, "night()", x.night(), -1, 3);
            CHECK.due("size(7)", x.size(7), 99);
            CHECK.due("size(8), no act", x.size(8), 16);
        }
        CHECK.due("undo()", x.undo(), true);
        CHECK.due("size(7)", x.size(7), 98);
        CHECK.due("night(), there is room again", x.night(), 0);
        CHECK.due("size(7)", x.size(7), 99);
        CHECK.by("52: NONE: 1 (no TOWN)");
        SeanceStreet none = new SeanceStreet();
        CHECK.refused(none, "night()", none.night(), -1, 1);
        CHECK.due("size(7)", none.size(7), 0);
    }

    private static void moves() {
        CHECK.by("53: MOVE: the house he was in");
        SeanceStreet x = Check.townOf("town houses 40 lips 0;person a house 0;person b house 1;dead x late slip 0 for a");
        CHECK.due("move(0, 39), to the last house", x.move(0, 39), 0);
        CHECK.due("trouble()", x.trouble(), 0);
        CHECK.due("move(1, 0), to the first", x.move(1, 0), 1);
        CHECK.due("house(39)", x.house(39), 0);
        CHECK.due("house(1)", x.house(1), -2);
        CHECK.due("move(0, 1)", x.move(0, 1), 39);
        CHECK.due("comesOut(0, 0), aimed at where he is", x.comesOut(0, 0), 1);
        CHECK.refused(x, "move(0, 40)", x.move(0, 40), -1, 1);
        CHECK.refused(x, "move(2, 5)", x.move(2, 5), -1, 1);
    }

    private static void noMoveToSomebody() {
        CHECK.by("53: 5 (somebody is there, he too)");
        SeanceStreet x = Check.townOf(Texts.people(6, 0, 6));
        for (int p = 0; p < 6; p++) {
            for (int h = 0; h < 6; h++) {
                CHECK.refused(x, "move(" + p + ", " + h + ")", x.move(p, h), -1, 5);
            }
        }
        CHECK.due("size(8)", x.size(8), 0);
        SeanceStreet two = Check.townOf("town houses 3 lips 0;person a house 0;person b house 2");
        CHECK.refused(two, "move(0, 0), where he is", two.move(0, 0), -1, 5);
        CHECK.refused(two, "move(0, 2), where another is", two.move(0, 2), -1, 5);
        two.move(1, 1);
        CHECK.due("move(0, 2), where he isn't any more", two.move(0, 2), 0);
        CHECK.refused(two, "move(0, 1), where he is now", two.move(0, 1), -1, 5);
    }

    private static void hangs() {
        CHECK.by("54: HANG: true; false: 1; 5 (it is there)");
        SeanceStreet x = Check.townOf("town houses 40 lips 0;person a house 3;dead x late slip 0 for a");
        CHECK.due("hang(0, 0), where no mirror is none", x.hang(0, 0), true);
        CHECK.due("trouble()", x.trouble(), 0);
        CHECK.refused(x, "hang(0, 0), it is there", x.hang(0, 0), 5);
        CHECK.due("hang(0, 39), another house for it", x.hang(0, 39), true);
        CHECK.refused(x, "hang(0, 39), it is there", x.hang(0, 39), 5);
        CHECK.due("size(4), one mirror", x.size(4), 1);
        CHECK.due("size(8)", x.size(8), 2);
        CHECK.due("comesOut(0, 0), 3 by the mirror 39", x.comesOut(0, 0), 35);
        for (int h : new int[] {40, -1, -2, Integer.MIN_VALUE, Integer.MAX_VALUE}) {
            CHECK.refused(x, "hang(0, " + h + ")", x.hang(0, h), 1);
        }
        x.take(0);
        CHECK.refused(x, "hang(0, -2), none is no house", x.hang(0, -2), 1);
        CHECK.due("hang(0, 39), where it was taken", x.hang(0, 39), true);
    }

    private static void takes() {
        CHECK.by("55: TAKE: true; false: 1; 5 (he has none)");
        SeanceStreet x = Check.townOf("town houses 40 lips 0;person a house 3;dead x late slip 0 for a;"
            + "dead y late slip 0 for a;mirror x 0");
        CHECK.due("take(0), of house 0", x.take(0), true);
        CHECK.due("trouble()", x.trouble(), 0);
        CHECK.refused(x, "take(0), he has none any more", x.take(0), 5);
        CHECK.refused(x, "take(1), he never had one", x.take(1), 5);
        CHECK.refused(x, "take(2)", x.take(2), 1);
        CHECK.refused(x, "take(-1)", x.take(-1), 1);
        CHECK.due("size(4)", x.size(4), 0);
        CHECK.due("size(8)", x.size(8), 1);
        CHECK.due("comesOut(0, 0)", x.comesOut(0, 0), 3);
        CHECK.due("undo()", x.undo(), true);
        CHECK.due("comesOut(0, 0), by the mirror again", x.comesOut(0, 0), 37);
    }

    private static void teaches() {
        CHECK.by("56: TEACH: true; false: 1; 2 (0 .. 39); 5 (it is)");
        SeanceStreet x = Check.townOf("town houses 40 lips 0;person a house 3;dead x late slip 0 for a;unsure x 7");
        CHECK.refused(x, "teach(0, 0), it is", x.teach(0, 0), 5);
        CHECK.due("teach(0, 39)", x.teach(0, 39), true);
        CHECK.due("trouble()", x.trouble(), 0);
        CHECK.refused(x, "teach(0, 39), it is", x.teach(0, 39), 5);
        CHECK.due("comesOut(0, 0)", x.comesOut(0, 0), 2);
        CHECK.due("teach(0, 0)", x.teach(0, 0), true);
        for (int slip : new int[] {40, -1, Integer.MIN_VALUE, Integer.MAX_VALUE}) {
            CHECK.refused(x, "teach(0, " + slip + ")", x.teach(0, slip), 2);
            CHECK.refused(x, "teach(1, " + slip + "), 1 ahead of 2", x.teach(1, slip), 1);
        }
        CHECK.due("dead(0, 1)", x.dead(0, 1), 0);
        CHECK.due("size(8)", x.size(8), 2);
    }

    private static void undo() {
        CHECK.by("57: UNDO: true (III: the latest)");
        SeanceStreet x = Check.townOf("town houses 40 lips 0;person a house 3;person b house 9;dead x late slip 0 for a;"
            + "dead y swing slip 1 for b;mirror y 0");
        x.night();
        x.night();
        x.move(0, 39);
        x.hang(0, 0);
        x.hang(1, 39);
        x.take(1);
        x.teach(1, 39);
        int[][] due = {{39, 0, -2, 1, 2}, {39, 0, 39, 1, 2}, {39, 0, 0, 1, 2}, {39, -2, 0, 1, 2}, {3, -2, 0, 1, 2},
            {3, -2, 0, 1, 1}, {3, -2, 0, 1, 0}};
        for (int k = 0; k < due.length; k++) {
            CHECK.due("undo() " + k, x.undo(), true);
            CHECK.due("trouble()", x.trouble(), 0);
            int[] now = {x.person(0, 0), x.dead(0, 3), x.dead(1, 3), x.dead(1, 1), x.size(7)};
            for (int i = 0; i < now.length; i++) {
                CHECK.due("behind undo() " + k + ", " + i, now[i], due[k][i]);
            }
            CHECK.due("size(8)", x.size(8), 6 - k);
        }
        CHECK.due("house(3)", x.house(3), 0);
        CHECK.due("house(39)", x.house(39), -2);
        CHECK.due("hears(0, 0)", x.hears(0, 0), 0);
    }

    private static void undoOfNone() {
        CHECK.by("57: false: 6");
        SeanceStreet none = new SeanceStreet();
        CHECK.refused(none, "undo(), no TOWN", none.undo(), 6);
        SeanceStreet x = Check.townOf(DRIFT);
        CHECK.refused(x, "undo(), nothing done", x.undo(), 6);
        x.night();
        CHECK.due("undo()", x.undo(), true);
        CHECK.refused(x, "undo(), of an undo", x.undo(), 6);
        CHECK.due("size(7)", x.size(7), 0);
    }

    private static void sixteenAreKept() {
        CHECK.by("III: UNDO: the latest (16 are kept)");
        for (int acts : new int[] {15, 16, 17, 33}) {
            SeanceStreet x = Check.townOf(DRIFT);
            for (int k = 1; k <= acts; k++) {
                x.night();
                CHECK.due("size(8) behind " + k, x.size(8), Math.min(k, 16));
            }
            int kept = Math.min(acts, 16);
            for (int k = 1; k <= kept; k++) {
                CHECK.due("undo() " + k + " of " + acts, x.undo(), true);
                CHECK.due("size(7)", x.size(7), acts - k);
            }
            CHECK.refused(x, "undo() of " + acts, x.undo(), 6);
            CHECK.due("size(7)", x.size(7), acts - kept);
        }
    }

    private static void sixteenOfAllSorts() {
        CHECK.by("III: UNDO: the latest (16 are kept), of all sorts");
        SeanceStreet x = Check.townOf("town houses 40 lips 0;person a house 0;dead x late slip 0 for a");
        for (int k = 1; k <= 5; k++) {
            x.move(0, k);
            x.teach(0, k);
            x.hang(0, k);
            x.night();
        }
        // Of twenty the first four, those of k 1, are forgotten.
        for (int k = 0; k < 16; k++) {
            CHECK.due("undo() " + k, x.undo(), true);
        }
        CHECK.refused(x, "undo()", x.undo(), 6);
        CHECK.due("person(0, 0)", x.person(0, 0), 1);
        CHECK.due("dead(0, 1)", x.dead(0, 1), 1);
        CHECK.due("dead(0, 3)", x.dead(0, 3), 1);
        CHECK.due("size(7)", x.size(7), 1);
        // Of nineteen acts the first three are forgotten, and what is left is of others each time.
        SeanceStreet y = mixedActs(19);
        for (int k = 19; k >= 4; k--) {
            CHECK.due("undo() of act " + k, y.undo(), true);
            CHECK.due("as it was ahead of act " + k, row(y), row(mixedActs(k - 1)));
        }
        CHECK.refused(y, "undo()", y.undo(), 6);
        x.move(0, 7);
        CHECK.due("size(8), acts are kept again", x.size(8), 1);
        CHECK.due("undo()", x.undo(), true);
        CHECK.due("person(0, 0)", x.person(0, 0), 1);
    }

    private static SeanceStreet mixedActs(int many) {
        SeanceStreet y = Check.townOf("town houses 40 lips 0;person a house 0;person b house 1;dead x late slip 0 for a;"
            + "dead y late slip 0 for b");
        for (int k = 1; k <= many; k++) {
            mixedAct(y, k);
        }
        return y;
    }

    private static void mixedAct(SeanceStreet y, int k) {
        switch (k % 7) {
            case 1:
                y.move(0, 10 + k);
                break;
            case 2:
                y.teach(1, k);
                break;
            case 3:
                y.hang(0, k);
                break;
            case 4:
                y.night();
                break;
            case 5:
                y.move(1, 10 + k);
                break;
            case 6:
                y.teach(0, k);
                break;
            default:
                y.hang(1, k);
                break;
        }
    }

    private static long row(SeanceStreet y) {
        int[] now = {y.person(0, 0), y.person(1, 0), y.dead(0, 1), y.dead(1, 1), y.dead(0, 3), y.dead(1, 3), y.size(7)};
        long row = 0;
        for (int number : now) {
            row = row * 64 + number + 2;
        }
        return row;
    }

    private static void refusedActs() {
        CHECK.by("III: UNDO: the latest (acts refused are none)");
        SeanceStreet x = Check.townOf("town houses 40 lips 0;person a house 0;dead x late slip 0 for a");
        x.teach(0, 5);
        x.move(0, 0);
        x.move(0, 40);
        x.take(0);
        x.hang(0, 40);
        x.teach(0, 5);
        x.teach(0, 40);
        x.back(0);
        CHECK.due("size(8)", x.size(8), 1);
        CHECK.due("undo()", x.undo(), true);
        CHECK.due("dead(0, 1)", x.dead(0, 1), 0);
        CHECK.refused(x, "undo()", x.undo(), 6);
    }

    private static void images() {
        CHECK.by("58: An IMAGE: its number");
        SeanceStreet x = Check.townOf(DRIFT);
        for (int image = 0; image < 3; image++) {
            CHECK.due("image()", x.image(), image);
            CHECK.due("trouble()", x.trouble(), 0);
            CHECK.due("size(9)", x.size(9), image + 1);
            CHECK.due("size(8), it is no act", x.size(8), 0);
        }
    }

    private static void noFourthImage() {
        CHECK.by("58: NONE: 1 (no TOWN); 3 (III: IMAGES: up to 3)");
        SeanceStreet none = new SeanceStreet();
        CHECK.refused(none, "image(), no TOWN", none.image(), -1, 1);
        CHECK.due("size(9)", none.size(9), 0);
        SeanceStreet x = Check.townOf(DRIFT);
        x.image();
        x.image();
        x.image();
        for (int k = 0; k < 2; k++) {
            x.night();
            CHECK.refused(x, "image(), a fourth", x.image(), -1, 3);
            CHECK.due("size(9)", x.size(9), 3);
        }
        x.back(2);
        CHECK.due("size(7), the third is as it was", x.size(7), 0);
        CHECK.refused(x, "image(), gone back", x.image(), -1, 3);
        Check.tell(x, DRIFT);
        CHECK.due("image(), of another town", x.image(), 0);
    }

    private static void back() {
        CHECK.by("59: true; false: 1");
        SeanceStreet none = new SeanceStreet();
        CHECK.refused(none, "back(0), no TOWN", none.back(0), 1);
        SeanceStreet x = Check.townOf(DRIFT);
        CHECK.refused(x, "back(0), no IMAGE", x.back(0), 1);
        x.image();
        x.image();
        x.night();
        for (int image : new int[] {2, 3, -1, Integer.MIN_VALUE, Integer.MAX_VALUE}) {
            CHECK.refused(x, "back(" + image + ")", x.back(image), 1);
            CHECK.due("size(7), nothing is gone back to", x.size(7), 1);
            CHECK.due("size(8), and all can be undone", x.size(8), 1);
        }
        CHECK.due("back(1), the last", x.back(1), true);
        CHECK.due("trouble()", x.trouble(), 0);
        CHECK.due("size(7)", x.size(7), 0);
    }

    private static void nothingToUndoBehindBack() {
        CHECK.by("III: gone back to one, nothing can be undone");
        SeanceStreet x = Check.townOf(DRIFT);
        x.night();
        x.image();
        CHECK.due("size(8), the image alone is nothing", x.size(8), 1);
        x.night();
        x.back(0);
        CHECK.due("size(8)", x.size(8), 0);
        CHECK.refused(x, "undo()", x.undo(), 6);
        CHECK.due("size(7)", x.size(7), 1);
        x.night();
        CHECK.due("size(8), from there on it can", x.size(8), 1);
        CHECK.due("undo()", x.undo(), true);
        CHECK.refused(x, "undo(), no further", x.undo(), 6);
        CHECK.due("size(7)", x.size(7), 1);
    }

    private static void allImagesStay() {
        CHECK.by("59: All is as by an IMAGE (all IMAGES stay)");
        SeanceStreet x = Check.townOf("town houses 40 lips 0;person a house 0;dead x late slip 0 for a");
        for (int k = 0; k < 3; k++) {
            x.image();
            x.night();
            x.move(0, 10 + k);
            x.teach(0, 20 + k);
            x.hang(0, 30 + k);
        }
        int[][] due = {{0, 0, 0, -2}, {1, 10, 20, 30}, {2, 11, 21, 31}};
        for (int image : new int[] {0, 2, 1, 1, 2, 0}) {
            CHECK.due("back(" + image + ")", x.back(image), true);
            int[] now = {x.size(7), x.person(0, 0), x.dead(0, 1), x.dead(0, 3)};
            for (int i = 0; i < now.length; i++) {
                CHECK.due("by image " + image + ", " + i, now[i], due[image][i]);
            }
            CHECK.due("house(" + due[image][1] + ")", x.house(due[image][1]), 0);
            CHECK.due("size(9)", x.size(9), 3);
            CHECK.due("size(4)", x.size(4), image == 0 ? 0 : 1);
        }
    }

    private static void imagesAreAsTaken() {
        CHECK.by("59: All is as by an IMAGE (as it was taken, whatever came behind)");
        SeanceStreet x = Check.townOf("town houses 40 lips 0;person a house 0;dead x late slip 0 for a");
        x.image();
        x.back(0);
        x.move(0, 5);
        x.teach(0, 6);
        x.hang(0, 7);
        x.night();
        x.back(0);
        CHECK.due("person(0, 0)", x.person(0, 0), 0);
        CHECK.due("dead(0, 1)", x.dead(0, 1), 0);
        CHECK.due("dead(0, 3)", x.dead(0, 3), -2);
        CHECK.due("size(7)", x.size(7), 0);
        x.feed(1, 2, 3, 4, 5);
        x.back(0);
        CHECK.due("size(10), THE TAPE is no part of it", x.size(10), 20);
    }

    private static void led() {
        CHECK.by("60: NoSuchElementException if there is none such");
        SeanceStreet none = new SeanceStreet();
        for (int i : new int[] {0, -1, 1, Integer.MIN_VALUE, Integer.MAX_VALUE}) {
            CHECK.due("led(" + i + "), no TOWN", Check.led(none, i), -9);
            CHECK.due("led(" + i + "), no dead", Check.led(Check.townOf(Towns.PAIR), i), -9);
        }
        SeanceStreet right = Check.townOf(Texts.people(6, 0, 6) + Texts.dead(6, "late", 0, "pa"));
        CHECK.due("led(0), all are right", Check.led(right, 0), -9);
        CHECK.by("60: The i-th dead, by numbers, whose saying isn't RIGHT on the night NOW");
        SeanceStreet x = Check.townOf(Texts.people(6, 0, 6) + Texts.dead(6, "drift", 1, "pa"));
        CHECK.due("led(0), on night 0", Check.led(x, 0), -9);
        x.night();
        for (int i = 0; i < 6; i++) {
            CHECK.due("led(" + i + "), all six", Check.led(x, i), i);
        }
        for (int i : new int[] {6, 7, -1, Integer.MIN_VALUE, Integer.MAX_VALUE}) {
            CHECK.due("led(" + i + ")", Check.led(x, i), -9);
        }
        x.teach(0, 0);
        x.teach(5, 6);
        CHECK.due("led(0), the second dead", Check.led(x, 0), 1);
        CHECK.due("led(3), the last but one", Check.led(x, 3), 4);
        CHECK.due("led(4)", Check.led(x, 4), -9);
    }

    private static void sizes() {
        CHECK.by("61: 0 houses, 1 lips, .. 10 bytes of THE TAPE");
        SeanceStreet x = Check.townOf(Texts.people(40, 100, 6) + Texts.dead(6, "late", 0, "pa")
            + ";mirror da 0;unsure da 1;unsure db 1;unsure dc 1;unsure dd 1;heard pa da night 0;heard pa da night 1;"
            + "heard pa da night 2;heard pa da night 3;heard pa da night 4;heard pa da night 5;heard pa da night 6;"
            + "heard pa da night 7");
        int[] due = {40, 100, 6, 6, 1, 4, 8, 0, 0, 0, 0};
        for (int what = 0; what <= 10; what++) {
            CHECK.due("size(" + what + ")", x.size(what), due[what]);
        }
        for (int d = 1; d < 6; d++) {
            x.hang(d, 0);
        }
        x.night();
        x.image();
        x.feed(0, 0, 0, 0, 0);
        int[] then = {40, 100, 6, 6, 6, 4, 8, 1, 6, 1, 20};
        for (int what = 0; what <= 10; what++) {
            CHECK.due("size(" + what + ")", x.size(what), then[what]);
        }
    }

    private static void noOtherSize() {
        CHECK.by("61: NONE for others");
        SeanceStreet x = Check.townOf(DRIFT);
        SeanceStreet none = new SeanceStreet();
        for (int what : new int[] {-1, 11, 12, Integer.MIN_VALUE, Integer.MAX_VALUE}) {
            CHECK.due("size(" + what + ")", x.size(what), -1);
            CHECK.due("trouble(), it is no refusal", x.trouble(), 0);
            CHECK.due("size(" + what + "), no TOWN", none.size(what), -1);
        }
    }

    private static void sizeWithoutTown() {
        CHECK.by("61: 0 for what there isn't");
        SeanceStreet none = new SeanceStreet();
        for (int what = 0; what <= 10; what++) {
            CHECK.due("size(" + what + "), no TOWN", none.size(what), 0);
        }
        none.feed(0, 0, 0, 0, 0);
        CHECK.due("size(10), THE TAPE needs no TOWN", none.size(10), 20);
        SeanceStreet least = Check.townOf("town houses 2 lips 0;person a house 0");
        int[] due = {2, 0, 1, 0, 0, 0, 0, 0, 0, 0, 0};
        for (int what = 0; what <= 10; what++) {
            CHECK.due("size(" + what + "), the least TOWN", least.size(what), due[what]);
        }
    }

    private static void trouble() {
        CHECK.by("62: TROUBLE (IV: of the latest call that may be refused: 0 it wasn't)");
        SeanceStreet x = new SeanceStreet();
        CHECK.due("trouble(), no call yet", x.trouble(), 0);
        CHECK.refused(x, "seat(0)", x.seat(0), -1, 1);
        CHECK.refused(x, "town(1)", x.town(1), -1, 2);
        CHECK.refused(x, "town(0)", x.town(0), -1, 4);
        CHECK.refused(x, "undo()", x.undo(), 6);
        Check.tell(x, DRIFT);
        CHECK.due("trouble(), a town", x.trouble(), 0);
        CHECK.refused(x, "move(0, 0)", x.move(0, 0), -1, 5);
        x.seat(0);
        CHECK.due("trouble(), seat(0)", x.trouble(), 0);
        x.image();
        x.image();
        x.image();
        CHECK.refused(x, "image()", x.image(), -1, 3);
        CHECK.due("trouble(), again", x.trouble(), 3);
        CHECK.due("moveFor(0, 0), -2 is no refusal", x.moveFor(0, 0), -2);
        CHECK.due("trouble(), moveFor(0, 0)", x.trouble(), 0);
        CHECK.refused(x, "take(0)", x.take(0), 5);
        x.undo();
        CHECK.due("trouble(), of undo() then", x.trouble(), 6);
        x.back(0);
        CHECK.due("trouble(), back(0)", x.trouble(), 0);
    }

    private static void callsThatAreNeverRefused() {
        CHECK.by("IV: TROUBLE of the latest call that may be refused (those of which a number is told here)");
        SeanceStreet x = Check.townOf(DRIFT);
        int[] numbers = {5, 1, 2};
        for (int number : numbers) {
            if (number == 5) {
                x.move(0, 0);
            } else {
                x.hears(number == 1 ? 9 : 0, number == 2 ? 100 : 0);
            }
            x.feed(0, 0, 0, 0, 0);
            x.fault();
            x.where();
            x.size(0);
            x.size(99);
            x.trouble();
            Check.led(x, 0);
            Check.led(x, 99);
            CHECK.due("trouble(), " + number + " still", x.trouble(), number);
        }
        SeanceStreet full = new SeanceStreet();
        full.right(0);
        for (int k = 0; k < 41; k++) {
            full.feed(0, 0, 0, 0, 0);
        }
        CHECK.due("trouble(), a feed that answers NONE has no number", full.trouble(), 1);
    }
}
