/** Promises 47 to 51: lips by chance, by draws. */
public final class LipsTest {
    private static final Check CHECK = new Check("LipsTest");

    public static void main(String[] args) {
        odds();
        most();
        mean();
        allOrNothing();
        draws();
        belowLips();
        wrong();
        withoutTown();
        CHECK.end();
    }

    private static void oddsAre(SeanceStreet x, int d, int night, long upper, long lower) {
        CHECK.due("odds(" + d + ", " + night + ", upper)", x.odds(d, night, false), upper);
        CHECK.due("odds(" + d + ", " + night + ", lower)", x.odds(d, night, true), lower);
    }

    private static void mostAre(SeanceStreet x, int many, int night, long upper, long lower) {
        CHECK.due("most(" + many + ", " + night + ", upper)", x.most(many, night, false), upper);
        CHECK.due("most(" + many + ", " + night + ", lower)", x.most(many, night, true), lower);
    }

    private static void meanIs(SeanceStreet x, int p, int night, long upper, long lower) {
        CHECK.due("mean(" + p + ", " + night + ", upper)", x.mean(p, night, false), upper);
        CHECK.due("mean(" + p + ", " + night + ", lower)", x.mean(p, night, true), lower);
    }

    private static void odds() {
        SeanceStreet x = Check.townOf(Towns.FOUR);
        oddsAre(x, 0, 0, 0, 1);
        oddsAre(x, 1, 0, 0, 1);
        oddsAre(x, 2, 0, 3, 4);
        oddsAre(x, 2, 2, 1, 1);
        oddsAre(x, 2, 4, 1, 4);
        oddsAre(x, 3, 0, 0, 1);
        oddsAre(x, 4, 99, 3, 4);
        // Behind the mirror it is a house on, not back: 7 is at 1 by the mirror 4, and a house on at 2.
        SeanceStreet mirror = Check.townOf("town houses 8 lips 1;person a house 0;person b house 2;person c house 1;"
            + "dead x early slip 3 for b;mirror x 4");
        CHECK.due("comesOut(0, 0)", mirror.comesOut(0, 0), 1);
        oddsAre(mirror, 0, 0, 1, 100);
    }

    private static void most() {
        SeanceStreet x = Check.townOf(Towns.FOUR);
        mostAre(x, 0, 0, 1, 1);
        mostAre(x, 1, 0, 15, 16);
        mostAre(x, 2, 0, 9, 16);
        mostAre(x, 3, 0, 0, 1);
        mostAre(x, 6, 0, 0, 1);
        StringBuilder text = new StringBuilder("town houses 2 lips 1;person a house 0;person b house 1");
        for (int d = 0; d < 6; d++) {
            text.append(";dead ").append("uvwxyz".charAt(d)).append(" late slip 0 for a");
        }
        SeanceStreet six = Check.townOf(text.toString());
        mostAre(six, 6, 0, 941480149401L, 1000000000000L);
        mostAre(six, 1, 0, 999999999999L, 1000000000000L);
        mostAre(six, 5, 0, (941480149401L + 6 * 9509900499L) / 5, 200000000000L);
        mostAre(six, 0, 0, 1, 1);
    }

    private static void mean() {
        SeanceStreet x = Check.townOf(Towns.FOUR);
        meanIs(x, 0, 0, 7, 4);
        meanIs(x, 1, 0, 5, 4);
        meanIs(x, 2, 0, 7, 4);
        meanIs(x, 3, 0, 1, 4);
        meanIs(x, 3, 1, 1, 4);
        meanIs(Check.townOf(Towns.PAIR), 1, 99, 0, 1);
        meanIs(Check.townOf("town houses 5 lips 33;person a house 0;dead x late slip 3 for a;dead y late slip 2 for a"),
            0, 0, 2, 1);
    }

    private static void allOrNothing() {
        String text = "town houses 4 lips 0;person a house 0;person b house 1;person c house 2;dead x late slip 0 for a;"
            + "dead y late slip 1 for a;dead z early slip 1 for b";
        SeanceStreet never = Check.townOf(text);
        oddsAre(never, 0, 0, 1, 1);
        oddsAre(never, 2, 0, 0, 1);
        mostAre(never, 1, 0, 1, 1);
        mostAre(never, 2, 0, 0, 1);
        CHECK.due("rights(9, 99)", never.rights(9, 99), 99);
        SeanceStreet always = Check.townOf(text.replace("lips 0", "lips 100"));
        oddsAre(always, 0, 0, 0, 1);
        oddsAre(always, 2, 0, 1, 1);
        meanIs(always, 1, 0, 2, 1);
        CHECK.due("heardBy(1, 9, 9)", always.heardBy(1, 9, 9), 2);
        CHECK.due("rights(9, 99)", always.rights(9, 99), 99);
    }

    /** From 0 the draws are 74, 24, 52, 90, 41. */
    private static void draws() {
        String text = "town houses 3 lips 50;person a house 0;person b house 1;person c house 2;dead x late slip 0 for a";
        SeanceStreet x = Check.townOf(text);
        int[] due = {0, 1, 0, 0, 1};
        int right = 0;
        for (int night = 0; night < 5; night++) {
            CHECK.due("rights(0, " + night + ")", x.rights(0, night), right);
            CHECK.due("heardBy(0, 0, " + night + ")", x.heardBy(0, 0, night), due[night]);
            right += due[night] == 0 ? 1 : 0;
        }
        CHECK.due("rights(0, 5)", x.rights(0, 5), 3);
        SeanceStreet two = Check.townOf(text + ";dead y late slip 2 for c");
        // 74 and 24, then 52 and 90, then 41.
        CHECK.due("heardBy(0, 0, 0)", two.heardBy(0, 0, 0), 0);
        CHECK.due("heardBy(1, 0, 0)", two.heardBy(1, 0, 0), 2);
        CHECK.due("heardBy(0, 0, 1)", two.heardBy(0, 0, 1), 0);
        CHECK.due("heardBy(1, 0, 1)", two.heardBy(1, 0, 1), 1);
        CHECK.due("heardBy(0, 0, 2)", two.heardBy(0, 0, 2), 1);
        CHECK.due("rights(0, 1)", two.rights(0, 1), 2);
        CHECK.due("rights(0, 2)", two.rights(0, 2), 3);
    }

    /** 65,536 becomes itself: each draw is 36. */
    private static void belowLips() {
        String text = "town houses 2 lips 36;person a house 0;person b house 1;dead x late slip 0 for a";
        SeanceStreet x = Check.townOf(text);
        CHECK.due("heardBy(0, 65536, 99)", x.heardBy(0, 65536, 99), 0);
        CHECK.due("rights(65536, 99)", x.rights(65536, 99), 99);
        SeanceStreet more = Check.townOf(text.replace("lips 36", "lips 37"));
        CHECK.due("heardBy(0, 65536, 99)", more.heardBy(0, 65536, 99), 1);
        CHECK.due("rights(65536, 99)", more.rights(65536, 99), 0);
    }

    private static void wrong() {
        SeanceStreet x = Check.townOf(Towns.FOUR);
        CHECK.refused(x, "odds(5, 0, true)", x.odds(5, 0, true), -1, 1);
        CHECK.refused(x, "odds(0, 100, false)", x.odds(0, 100, false), -1, 2);
        CHECK.refused(x, "most(-1, 0, true)", x.most(-1, 0, true), -1, 2);
        CHECK.refused(x, "most(7, 0, true)", x.most(7, 0, true), -1, 2);
        CHECK.refused(x, "most(0, 100, true)", x.most(0, 100, true), -1, 2);
        CHECK.refused(x, "mean(4, 0, true)", x.mean(4, 0, true), -1, 1);
        CHECK.refused(x, "mean(0, -1, true)", x.mean(0, -1, true), -1, 2);
        CHECK.refused(x, "heardBy(5, 0, 0)", x.heardBy(5, 0, 0), -1, 1);
        CHECK.refused(x, "heardBy(0, 65537, 0)", x.heardBy(0, 65537, 0), -1, 2);
        CHECK.refused(x, "heardBy(0, -1, 0)", x.heardBy(0, -1, 0), -1, 2);
        CHECK.refused(x, "heardBy(0, 0, 100)", x.heardBy(0, 0, 100), -1, 2);
        CHECK.refused(x, "rights(65537, 0)", x.rights(65537, 0), -1, 2);
        CHECK.refused(x, "rights(-1, 0)", x.rights(-1, 0), -1, 2);
        CHECK.refused(x, "rights(0, 100)", x.rights(0, 100), -1, 2);
        CHECK.refused(x, "rights(0, -1)", x.rights(0, -1), -1, 2);
        CHECK.due("rights(65536, 0)", x.rights(65536, 0), 0);
        CHECK.due("trouble()", x.trouble(), 0);
    }

    private static void withoutTown() {
        SeanceStreet x = new SeanceStreet();
        CHECK.refused(x, "odds(0, 0, true)", x.odds(0, 0, true), -1, 1);
        CHECK.refused(x, "most(7, 0, true)", x.most(7, 0, true), -1, 1);
        CHECK.refused(x, "mean(0, 0, true)", x.mean(0, 0, true), -1, 1);
        CHECK.refused(x, "heardBy(0, 0, 0)", x.heardBy(0, 0, 0), -1, 1);
        CHECK.refused(x, "rights(0, 0)", x.rights(0, 0), -1, 1);
    }
}
