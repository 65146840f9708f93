/** Promises 52 to 62: acts, undoing, images, what is told, trouble. */
public final class ActsTest {
    private static final Check CHECK = new Check("ActsTest");

    public static void main(String[] args) {
        nights();
        moves();
        mirrors();
        slips();
        undoing();
        sixteenAreKept();
        images();
        led();
        sizes();
        trouble();
        withoutTown();
        CHECK.end();
    }

    private static void nights() {
        SeanceStreet x = Check.townOf(Towns.FOUR);
        CHECK.due("night()", x.night(), 16);
        CHECK.due("night()", x.night(), 20);
        CHECK.due("size(7)", x.size(7), 2);
        for (int night = 3; night <= 99; night++) {
            CHECK.due("night() " + night, x.night(), x.right(night));
        }
        CHECK.due("size(7)", x.size(7), 99);
        CHECK.refused(x, "night() 100", x.night(), -1, 3);
        CHECK.due("size(7)", x.size(7), 99);
        CHECK.due("undo()", x.undo(), true);
        CHECK.due("size(7)", x.size(7), 98);
    }

    private static void moves() {
        SeanceStreet x = Check.townOf(Towns.FOUR);
        CHECK.refused(x, "move(0, 3), somebody is there", x.move(0, 3), -1, 5);
        CHECK.refused(x, "move(0, 0), he is", x.move(0, 0), -1, 5);
        CHECK.refused(x, "move(4, 1)", x.move(4, 1), -1, 1);
        CHECK.refused(x, "move(-1, 1)", x.move(-1, 1), -1, 1);
        CHECK.refused(x, "move(0, 12)", x.move(0, 12), -1, 1);
        CHECK.refused(x, "move(0, -1)", x.move(0, -1), -1, 1);
        CHECK.due("size(8), refused acts aren't kept", x.size(8), 0);
        CHECK.due("move(1, 11)", x.move(1, 11), 3);
        CHECK.due("trouble()", x.trouble(), 0);
        CHECK.due("house(3)", x.house(3), -2);
        CHECK.due("house(11)", x.house(11), 1);
        CHECK.due("hears(1, 0): 9 by the mirror 3, cid's now", x.hears(1, 0), 2);
        CHECK.due("move(0, 3), who left is gone", x.move(0, 3), 0);
        CHECK.due("move(0, 0)", x.move(0, 0), 3);
    }

    private static void mirrors() {
        SeanceStreet x = Check.townOf(Towns.FOUR);
        CHECK.due("size(4)", x.size(4), 2);
        CHECK.refused(x, "hang(1, 6), it is there", x.hang(1, 6), 5);
        CHECK.refused(x, "take(0), he has none", x.take(0), 5);
        CHECK.refused(x, "hang(5, 0)", x.hang(5, 0), 1);
        CHECK.refused(x, "hang(0, 12)", x.hang(0, 12), 1);
        CHECK.refused(x, "hang(0, -2)", x.hang(0, -2), 1);
        CHECK.refused(x, "take(5)", x.take(5), 1);
        CHECK.refused(x, "take(-1)", x.take(-1), 1);
        CHECK.due("size(8)", x.size(8), 0);
        CHECK.due("hang(0, 2)", x.hang(0, 2), true);
        CHECK.due("trouble()", x.trouble(), 0);
        CHECK.due("size(4)", x.size(4), 3);
        CHECK.due("right(0)", x.right(0), 21);
        CHECK.due("hang(0, 3), another house for it", x.hang(0, 3), true);
        CHECK.due("size(4)", x.size(4), 3);
        CHECK.due("comesOut(0, 0)", x.comesOut(0, 0), 2);
        CHECK.due("take(0)", x.take(0), true);
        CHECK.due("dead(0, 3)", x.dead(0, 3), -2);
        CHECK.due("size(4)", x.size(4), 2);
        CHECK.refused(x, "take(0)", x.take(0), 5);
    }

    private static void slips() {
        SeanceStreet x = Check.townOf(Towns.FOUR);
        CHECK.refused(x, "teach(5, 0)", x.teach(5, 0), 1);
        CHECK.refused(x, "teach(5, 40)", x.teach(5, 40), 1);
        CHECK.refused(x, "teach(0, 40)", x.teach(0, 40), 2);
        CHECK.refused(x, "teach(0, -1)", x.teach(0, -1), 2);
        CHECK.refused(x, "teach(0, 4), it is", x.teach(0, 4), 5);
        CHECK.due("size(8)", x.size(8), 0);
        CHECK.due("teach(0, 39)", x.teach(0, 39), true);
        CHECK.due("trouble()", x.trouble(), 0);
        CHECK.due("comesOut(0, 0)", x.comesOut(0, 0), 3);
        CHECK.due("teach(0, 0)", x.teach(0, 0), true);
        CHECK.due("dead(0, 1)", x.dead(0, 1), 0);
        CHECK.due("right(0)", x.right(0), 21);
    }

    private static void undoing() {
        SeanceStreet x = Check.townOf(Towns.FOUR);
        CHECK.refused(x, "undo(), nothing done", x.undo(), 6);
        x.night();
        x.move(1, 11);
        x.hang(0, 5);
        x.hang(0, 6);
        x.take(1);
        x.teach(2, 9);
        CHECK.due("size(8)", x.size(8), 6);
        CHECK.due("undo() teach", x.undo(), true);
        CHECK.due("trouble()", x.trouble(), 0);
        CHECK.due("dead(2, 1)", x.dead(2, 1), 5);
        CHECK.due("undo() take", x.undo(), true);
        CHECK.due("dead(1, 3)", x.dead(1, 3), 6);
        CHECK.due("undo() hang", x.undo(), true);
        CHECK.due("dead(0, 3)", x.dead(0, 3), 5);
        CHECK.due("undo() the first hang", x.undo(), true);
        CHECK.due("dead(0, 3)", x.dead(0, 3), -2);
        CHECK.due("undo() move", x.undo(), true);
        CHECK.due("house(3)", x.house(3), 1);
        CHECK.due("house(11)", x.house(11), -2);
        CHECK.due("hears(3, 0)", x.hears(3, 0), 1);
        CHECK.due("size(7)", x.size(7), 1);
        CHECK.due("undo() night", x.undo(), true);
        CHECK.due("size(7)", x.size(7), 0);
        CHECK.due("size(8)", x.size(8), 0);
        CHECK.refused(x, "undo()", x.undo(), 6);
        CHECK.due("right(0)", x.right(0), 20);
    }

    private static void sixteenAreKept() {
        SeanceStreet x = Check.townOf(Towns.FOUR);
        for (int slip = 10; slip < 30; slip++) {
            CHECK.due("teach(0, " + slip + ")", x.teach(0, slip), true);
            CHECK.due("size(8)", x.size(8), Math.min(16, slip - 9));
        }
        for (int k = 0; k < 16; k++) {
            CHECK.due("undo() " + k, x.undo(), true);
            CHECK.due("dead(0, 1)", x.dead(0, 1), 28 - k);
        }
        CHECK.refused(x, "undo() 16", x.undo(), 6);
        CHECK.due("dead(0, 1)", x.dead(0, 1), 13);
    }

    private static void images() {
        SeanceStreet x = Check.townOf(Towns.FOUR);
        CHECK.refused(x, "back(0), no image", x.back(0), 1);
        CHECK.due("image()", x.image(), 0);
        x.night();
        x.move(0, 1);
        x.hang(0, 4);
        x.teach(0, 7);
        CHECK.due("image()", x.image(), 1);
        x.take(0);
        x.take(1);
        CHECK.due("image()", x.image(), 2);
        CHECK.refused(x, "image(), a fourth", x.image(), -1, 3);
        CHECK.due("size(9)", x.size(9), 3);
        CHECK.due("size(8), images undo nothing", x.size(8), 6);
        CHECK.refused(x, "back(3)", x.back(3), 1);
        CHECK.refused(x, "back(-1)", x.back(-1), 1);
        CHECK.due("size(8), nor does a refused back", x.size(8), 6);
        CHECK.due("back(0)", x.back(0), true);
        CHECK.due("trouble()", x.trouble(), 0);
        int[] now = {x.size(7), x.house(0), x.house(1), x.dead(0, 3), x.dead(1, 3), x.dead(0, 1), x.right(0)};
        int[] due = {0, 0, -2, -2, 6, 4, 20};
        for (int k = 0; k < due.length; k++) {
            CHECK.due("by image 0, " + k, now[k], due[k]);
        }
        CHECK.due("size(8)", x.size(8), 0);
        CHECK.refused(x, "undo()", x.undo(), 6);
        x.teach(0, 1);
        x.move(0, 2);
        CHECK.due("back(1), all images stay", x.back(1), true);
        int[] later = {x.size(7), x.house(0), x.house(1), x.dead(0, 3), x.dead(1, 3), x.dead(0, 1)};
        int[] dueLater = {1, -2, 0, 4, 6, 7};
        for (int k = 0; k < dueLater.length; k++) {
            CHECK.due("by image 1, " + k, later[k], dueLater[k]);
        }
        CHECK.due("back(0), as it was taken", x.back(0), true);
        CHECK.due("dead(0, 1)", x.dead(0, 1), 4);
        CHECK.due("back(2)", x.back(2), true);
        CHECK.due("size(4)", x.size(4), 1);
        CHECK.due("size(9)", x.size(9), 3);
    }

    private static void led() {
        SeanceStreet x = Check.townOf(Towns.FOUR);
        int[] due = {0, 1, 3, -9};
        for (int i = 0; i < 4; i++) {
            CHECK.due("led(" + i + ")", Check.led(x, i), due[i]);
        }
        CHECK.due("led(-1)", Check.led(x, -1), -9);
        CHECK.due("led(MIN)", Check.led(x, Integer.MIN_VALUE), -9);
        x.night();
        CHECK.due("led(2), on night 1", Check.led(x, 2), 2);
        CHECK.due("led(3)", Check.led(x, 3), 3);
        CHECK.due("led(4)", Check.led(x, 4), -9);
        CHECK.due("led(0), no dead", Check.led(Check.townOf(Towns.PAIR), 0), -9);
    }

    private static void sizes() {
        SeanceStreet x = Check.townOf(Towns.FOUR + ";unsure y 3;heard ann u night 1;heard bob u night 2");
        x.night();
        x.night();
        x.image();
        x.feed(1, 2, 3, 4, 5);
        int[] due = {12, 25, 4, 5, 2, 1, 2, 2, 2, 1, 20};
        for (int what = 0; what <= 10; what++) {
            CHECK.due("size(" + what + ")", x.size(what), due[what]);
        }
        for (int what : new int[] {-1, 11, Integer.MIN_VALUE, Integer.MAX_VALUE}) {
            CHECK.due("size(" + what + ")", x.size(what), -1);
        }
    }

    /** Calls of which no number is told leave it; the others tell theirs each time. */
    private static void trouble() {
        SeanceStreet x = Check.townOf(Towns.FOUR);
        CHECK.refused(x, "move(0, 3)", x.move(0, 3), -1, 5);
        x.size(99);
        x.fault();
        x.where();
        x.feed(0, 0, 0, 0, 0);
        Check.led(x, 9);
        Check.led(x, 0);
        CHECK.due("trouble() still", x.trouble(), 5);
        CHECK.due("trouble() again", x.trouble(), 5);
        x.house(0);
        CHECK.due("trouble() behind house(0)", x.trouble(), 0);
        CHECK.refused(x, "town(21)", x.town(21), -1, 2);
        x.bestNight();
        CHECK.due("trouble() behind bestNight()", x.trouble(), 0);
        CHECK.refused(x, "town(20)", x.town(20), -1, 4);
        CHECK.due("where()", x.where(), 0);
        x.undo();
        CHECK.due("where() behind undo()", x.where(), -1);
        CHECK.due("trouble() behind undo()", x.trouble(), 6);
    }

    private static void withoutTown() {
        SeanceStreet x = new SeanceStreet();
        CHECK.refused(x, "night()", x.night(), -1, 1);
        CHECK.refused(x, "move(0, 0)", x.move(0, 0), -1, 1);
        CHECK.refused(x, "hang(0, 0)", x.hang(0, 0), 1);
        CHECK.refused(x, "take(0)", x.take(0), 1);
        CHECK.refused(x, "teach(0, 40)", x.teach(0, 40), 1);
        CHECK.refused(x, "undo()", x.undo(), 6);
        CHECK.refused(x, "image()", x.image(), -1, 1);
        CHECK.refused(x, "back(0)", x.back(0), 1);
        CHECK.due("led(0)", Check.led(x, 0), -9);
    }
}
