/** Promises 22 to 26: aims, mirrors and slips that put a saying right. */
public final class AimsTest {
    private static final Check CHECK = new Check("AimsTest");

    public static void main(String[] args) {
        aims();
        mirrors();
        slips();
        withoutTown();
        CHECK.end();
    }

    private static void aims() {
        SeanceStreet x = Check.townOf(Towns.FOUR);
        CHECK.due("aimFor(0, 3, 0)", x.aimFor(0, 3, 0), 4);
        CHECK.due("aims(0, 3, 0)", x.aims(0, 3, 0), 3);
        CHECK.due("aimFor(0, 0, 0)", x.aimFor(0, 0, 0), 7);
        CHECK.due("aims(0, 0, 0)", x.aims(0, 0, 0), 2);
        CHECK.due("aimFor(0, 2, 0), first by numbers", x.aimFor(0, 2, 0), 0);
        CHECK.due("aims(0, 2, 0)", x.aims(0, 2, 0), 4);
        CHECK.due("aimFor(1, 1, 0), by a mirror, round", x.aimFor(1, 1, 0), 0);
        CHECK.due("aims(1, 1, 0)", x.aims(1, 1, 0), 3);
        CHECK.due("aimFor(2, 2, 1)", x.aimFor(2, 2, 1), 0);
        CHECK.due("aimFor(2, 3, 1)", x.aimFor(2, 3, 1), 3);
        CHECK.refused(x, "aimFor(5, 0, 0)", x.aimFor(5, 0, 0), -1, 1);
        CHECK.refused(x, "aimFor(0, 4, 0)", x.aimFor(0, 4, 0), -1, 1);
        CHECK.refused(x, "aimFor(0, 0, 100)", x.aimFor(0, 0, 100), -1, 2);
        CHECK.refused(x, "aimFor(0, -1, 100)", x.aimFor(0, -1, 100), -1, 1);
        CHECK.refused(x, "aims(5, 0, 0)", x.aims(5, 0, 0), -1, 1);
        CHECK.refused(x, "aims(0, 4, 0)", x.aims(0, 4, 0), -1, 1);
        CHECK.refused(x, "aims(0, 0, -1)", x.aims(0, 0, -1), -1, 2);
    }

    private static void mirrors() {
        SeanceStreet x = Check.townOf(Towns.FOUR);
        CHECK.due("mirrorFor(0, 0)", x.mirrorFor(0, 0), 2);
        CHECK.due("mirrorFor(1, 0), in place of his", x.mirrorFor(1, 0), 1);
        CHECK.due("mirrorFor(3, 0)", x.mirrorFor(3, 0), 5);
        CHECK.due("mirrorFor(3, 1)", x.mirrorFor(3, 1), 2);
        CHECK.due("mirrorBest(0)", x.mirrorBest(0), 2);
        CHECK.due("mirrorBest(3), the first of those for half the nights", x.mirrorBest(3), 2);
        CHECK.due("dead(3, 3), his mirror stays", x.dead(3, 3), 1);
        CHECK.refused(x, "mirrorFor(5, 0)", x.mirrorFor(5, 0), -1, 1);
        CHECK.refused(x, "mirrorFor(0, 100)", x.mirrorFor(0, 100), -1, 2);
        CHECK.refused(x, "mirrorBest(5)", x.mirrorBest(5), -1, 1);
        CHECK.refused(x, "mirrorBest(-1)", x.mirrorBest(-1), -1, 1);
        SeanceStreet two = Check.townOf("town houses 2 lips 0;person a house 0;person b house 1;dead x late slip 1 for a;"
            + "dead y swing slip 0 for b");
        CHECK.due("mirrorFor(0, 0), none", two.mirrorFor(0, 0), -2);
        CHECK.due("trouble()", two.trouble(), 0);
        CHECK.due("mirrorBest(0), right on no night", two.mirrorBest(0), 0);
        CHECK.due("mirrorFor(1, 0)", two.mirrorFor(1, 0), 0);
    }

    private static void slips() {
        SeanceStreet x = Check.townOf(Towns.FOUR);
        CHECK.due("slipFor(0, 0)", x.slipFor(0, 0), 0);
        CHECK.due("slipFor(1, 0)", x.slipFor(1, 0), 4);
        CHECK.due("slipFor(2, 0)", x.slipFor(2, 0), 0);
        CHECK.due("slipFor(3, 1)", x.slipFor(3, 1), 4);
        CHECK.due("slipFor(3, 0)", x.slipFor(3, 0), 6);
        CHECK.due("dead(3, 1), his slip stays", x.dead(3, 1), 3);
        x.hang(2, 3);
        CHECK.due("slipFor(2, 0), by none", x.slipFor(2, 0), -2);
        CHECK.due("trouble()", x.trouble(), 0);
        CHECK.refused(x, "slipFor(5, 0)", x.slipFor(5, 0), -1, 1);
        CHECK.refused(x, "slipFor(0, 100)", x.slipFor(0, 100), -1, 2);
        // By the mirror 39 it comes out at 38 less the slip, and a hears 0 alone.
        SeanceStreet far = Check.townOf("town houses 40 lips 0;person a house 0;person b house 39;"
            + "dead x late slip 1 for a;mirror x 39");
        CHECK.due("slipFor(0, 0), nearly round", far.slipFor(0, 0), 38);
        far.hang(0, 20);
        CHECK.due("slipFor(0, 0)", far.slipFor(0, 0), 0);
    }

    private static void withoutTown() {
        SeanceStreet x = new SeanceStreet();
        CHECK.refused(x, "aimFor(0, 0, 0)", x.aimFor(0, 0, 0), -1, 1);
        CHECK.refused(x, "aims(0, 0, 0)", x.aims(0, 0, 0), -1, 1);
        CHECK.refused(x, "mirrorFor(0, 0)", x.mirrorFor(0, 0), -1, 1);
        CHECK.refused(x, "mirrorBest(0)", x.mirrorBest(0), -1, 1);
        CHECK.refused(x, "slipFor(0, 0)", x.slipFor(0, 0), -1, 1);
    }
}
