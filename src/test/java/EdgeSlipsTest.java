/** Promises 37 to 51, FITS, ASK, RESTS and LIPS, at their bounds, a method for each sentence that names one. */
public final class EdgeSlipsTest {
    private static final Check CHECK = new Check("EdgeSlipsTest");

    /** In a full ring of four, who hears a saying tells its slip; da to dd are of slip 0, or 1. */
    private static final String FULL = Texts.people(4, 0, 4) + Texts.dead(4, "late", 0, "pa");
    private static final String FOUR = FULL + ";unsure dd 1;unsure dc 1;unsure db 1;unsure da 1";

    public static void main(String[] args) {
        noUnsureDead();
        allSets();
        setsOfAnotherTown();
        noSet();
        fitAt();
        theSameSlip();
        peopleAndMirrorsAtFirst();
        could();
        surely();
        ask();
        askOfNone();
        judge();
        nightsHeard();
        chat();
        rests();
        rest();
        noneByOne();
        lipsAllOrNothing();
        most();
        mean();
        aHouseFurtherOn();
        seeds();
        belowLips();
        nightByNight();
        noneInNone();
        CHECK.end();
    }

    private static void noUnsureDead() {
        CHECK.by("37: FITS: how many (no unsure dead: the empty set)");
        for (String text : new String[] {Towns.PAIR, FULL, FULL + ";heard pa da night 0"}) {
            SeanceStreet x = Check.townOf(text);
            CHECK.due("fits()", x.fits(), 1);
            CHECK.due("fitAt(0)", x.fitAt(0), 0);
            CHECK.due("could()", x.could(), 0);
            CHECK.due("surely()", x.surely(), 0);
            CHECK.due("trouble()", x.trouble(), 0);
        }
        SeanceStreet x = Check.townOf(FULL + ";heard pb da night 0");
        CHECK.due("fits(), none", x.fits(), 0);
        CHECK.due("trouble()", x.trouble(), 0);
    }

    private static void allSets() {
        CHECK.by("III: FITS: all such (four unsure, nothing heard)");
        SeanceStreet x = Check.townOf(FOUR);
        CHECK.due("fits()", x.fits(), 16);
        for (int i = 0; i < 16; i++) {
            CHECK.due("fitAt(" + i + ")", x.fitAt(i), i);
        }
        CHECK.refused(x, "fitAt(16)", x.fitAt(16), -1, 1);
        CHECK.due("could()", x.could(), 15);
        CHECK.due("surely()", x.surely(), 0);
        CHECK.due("ask()", x.ask(), 0);
        CHECK.due("askLeaves()", x.askLeaves(), 8);
    }

    private static void setsOfAnotherTown() {
        CHECK.by("37: FITS: how many (of the TOWN that is)");
        SeanceStreet x = Check.townOf(FOUR);
        Check.tell(x, FULL + ";unsure dc 1;heard pb dc night 0");
        CHECK.due("fits()", x.fits(), 1);
        CHECK.due("fitAt(0)", x.fitAt(0), 1);
        CHECK.refused(x, "fitAt(1)", x.fitAt(1), -1, 1);
        CHECK.due("judge()", x.judge(), 0);
        Check.tell(x, FOUR);
        CHECK.due("fits()", x.fits(), 16);
        CHECK.due("judge()", x.judge(), -2);
    }

    private static void noSet() {
        CHECK.by("III: FITS: by which all was heard so (none)");
        // One heard wrongly of a dead that is sure, whatever the others are.
        SeanceStreet x = Check.townOf(FULL + ";unsure da 1;heard pb da night 0;heard pc db night 0");
        CHECK.due("fits()", x.fits(), 0);
        CHECK.refused(x, "fitAt(0)", x.fitAt(0), -1, 1);
        CHECK.due("could()", x.could(), 0);
        CHECK.due("surely(), 0 without a set", x.surely(), 0);
        CHECK.due("ask()", x.ask(), -2);
        CHECK.due("askLeaves()", x.askLeaves(), -2);
        CHECK.due("judge()", x.judge(), 0);
        CHECK.due("trouble()", x.trouble(), 0);
        SeanceStreet two = Check.townOf(FULL + ";unsure da 1;heard pa da night 0;heard pb da night 1");
        CHECK.due("fits(), one night so, one the other way", two.fits(), 0);
    }

    private static void fitAt() {
        CHECK.by("38: The i-th, by bits of unsure dead as told");
        // The first unsure one, dd, is bit 0, though da is dead 0.
        SeanceStreet x = Check.townOf(FOUR + ";heard pb dd night 0;heard pa dc night 0");
        int[] due = {1, 5, 9, 13};
        CHECK.due("fits()", x.fits(), 4);
        for (int i = 0; i < 4; i++) {
            CHECK.due("fitAt(" + i + ")", x.fitAt(i), due[i]);
        }
        CHECK.by("38: NONE: 1 (i, too)");
        for (int i : new int[] {4, -1, Integer.MIN_VALUE, Integer.MAX_VALUE, 15, 16}) {
            CHECK.refused(x, "fitAt(" + i + ")", x.fitAt(i), -1, 1);
        }
        SeanceStreet none = new SeanceStreet();
        for (int i : new int[] {0, -1, 16}) {
            CHECK.refused(none, "fitAt(" + i + "), no TOWN", none.fitAt(i), -1, 1);
        }
    }

    private static void theSameSlip() {
        CHECK.by("I: unsure DEAD WHOLE (whose slip may be that, 0 .. 39; the slip he has)");
        SeanceStreet x = Check.townOf(FULL + ";unsure da 0;heard pa da night 60");
        CHECK.due("fits(), with him and without", x.fits(), 2);
        CHECK.due("could()", x.could(), 1);
        CHECK.due("surely()", x.surely(), 0);
        CHECK.due("ask()", x.ask(), 0);
        CHECK.due("askLeaves()", x.askLeaves(), 1);
        SeanceStreet far = Check.townOf(FULL + ";unsure da 39;heard pd da night 60");
        CHECK.due("fits(), by 39", far.fits(), 1);
        CHECK.due("fitAt(0), by 39", far.fitAt(0), 1);
    }

    private static void peopleAndMirrorsAtFirst() {
        CHECK.by("III: FITS: people, mirrors as told at first");
        SeanceStreet x = Check.townOf("town houses 9 lips 0;person a house 0;person b house 4;dead x late slip 1 for a;"
            + "dead y late slip 1 for a;mirror y 0;unsure x 5;heard b x night 0;heard a y night 3");
        fitsOfOne(x, "as told");
        x.move(1, 8);
        x.move(0, 7);
        fitsOfOne(x, "people moved");
        x.take(1);
        x.hang(0, 3);
        fitsOfOne(x, "mirrors changed");
        x.teach(0, 20);
        x.teach(1, 3);
        fitsOfOne(x, "slips taught");
        x.night();
        x.image();
        x.back(0);
        fitsOfOne(x, "gone back");
    }

    private static void fitsOfOne(SeanceStreet x, String when) {
        CHECK.due("fits(), " + when, x.fits(), 1);
        CHECK.due("fitAt(0), " + when, x.fitAt(0), 0);
        CHECK.due("judge(), " + when, x.judge(), -2);
        CHECK.due("could(), " + when, x.could(), 0);
    }

    private static void could() {
        CHECK.by("39: Unsure dead in some, as bits");
        CHECK.due("could(), all", Check.townOf(FOUR).could(), 15);
        CHECK.due("could(), none", Check.townOf(FOUR + ";heard pa da night 0;heard pa db night 0;heard pa dc night 0;"
            + "heard pa dd night 0").could(), 0);
        CHECK.due("could(), all in the one set", Check.townOf(FOUR + ";heard pb da night 0;heard pb db night 0;"
            + "heard pb dc night 0;heard pb dd night 0").could(), 15);
        CHECK.due("could(), but the first", Check.townOf(FOUR + ";heard pa dd night 0").could(), 14);
    }

    private static void surely() {
        CHECK.by("40: Unsure dead in all (0 without a set), as bits");
        CHECK.due("surely(), all", Check.townOf(FOUR + ";heard pb da night 0;heard pb db night 0;heard pb dc night 0;"
            + "heard pb dd night 0").surely(), 15);
        CHECK.due("surely(), the last", Check.townOf(FOUR + ";heard pb da night 0").surely(), 8);
        CHECK.due("surely(), nothing heard", Check.townOf(FOUR).surely(), 0);
        SeanceStreet none = Check.townOf(FOUR + ";heard pc da night 0");
        CHECK.due("surely(), without a set", none.surely(), 0);
        CHECK.due("trouble()", none.trouble(), 0);
    }

    private static void ask() {
        CHECK.by("III: ASK: by whom, it being told, at most fewest FITS are left, the first such");
        // The first ones are known: asked, all are left.
        SeanceStreet last = Check.townOf(FOUR + ";heard pb dd night 0;heard pa dc night 0;heard pa db night 0");
        CHECK.due("fits()", last.fits(), 2);
        CHECK.due("ask(), the last", last.ask(), 3);
        CHECK.due("askLeaves()", last.askLeaves(), 1);
        SeanceStreet one = Check.townOf(FOUR + ";heard pb da night 0;heard pb db night 0;heard pb dc night 0;"
            + "heard pb dd night 0");
        CHECK.due("fits()", one.fits(), 1);
        CHECK.due("ask(), all alike, the first", one.ask(), 0);
        CHECK.due("askLeaves(), the one", one.askLeaves(), 1);
        SeanceStreet second = Check.townOf(FOUR + ";heard pb dd night 0");
        CHECK.due("ask(), the first that isn't known", second.ask(), 1);
        CHECK.due("askLeaves()", second.askLeaves(), 4);
    }

    private static void askOfNone() {
        CHECK.by("41, 42: -2 no FITS, no unsure dead; likewise");
        SeanceStreet none = Check.townOf(FULL);
        CHECK.due("ask(), no unsure dead", none.ask(), -2);
        CHECK.due("trouble()", none.trouble(), 0);
        CHECK.due("askLeaves(), no unsure dead", none.askLeaves(), -2);
        CHECK.due("trouble()", none.trouble(), 0);
        SeanceStreet no = Check.townOf(FOUR + ";heard pd da night 0");
        CHECK.due("ask(), no FITS", no.ask(), -2);
        CHECK.due("trouble()", no.trouble(), 0);
        CHECK.due("askLeaves(), no FITS", no.askLeaves(), -2);
        CHECK.due("trouble()", no.trouble(), 0);
    }

    private static void judge() {
        CHECK.by("43: The first heard, as told, that isn't so by slips as told, people, mirrors as told at first; -2");
        SeanceStreet nothing = Check.townOf(FOUR);
        CHECK.due("judge(), nothing heard", nothing.judge(), -2);
        CHECK.due("trouble()", nothing.trouble(), 0);
        StringBuilder heard = new StringBuilder(FOUR);
        for (int k = 0; k < 7; k++) {
            heard.append(";heard pa da night ").append(k * 10);
        }
        CHECK.due("judge(), all seven so", Check.townOf(heard.toString()).judge(), -2);
        CHECK.due("judge(), the last of eight", Check.townOf(heard + ";heard pb da night 7").judge(), 7);
        CHECK.due("judge(), all eight so", Check.townOf(heard + ";heard pa da night 7").judge(), -2);
        CHECK.due("judge(), the first of two", Check.townOf(FOUR + ";heard pb da night 0;heard pb db night 0").judge(), 0);
        CHECK.due("judge(), the second", Check.townOf(FOUR + ";heard pa da night 0;heard pb db night 0").judge(), 1);
    }

    private static void nightsHeard() {
        CHECK.by("I: heard PERSON DEAD night WHOLE (0 .. 60), by the LAW on that night");
        String drift = Texts.people(7, 0, 6) + ";dead x drift slip 1 for pa;unsure x 2";
        SeanceStreet x = Check.townOf(drift + ";heard pa x night 0");
        CHECK.due("fits(), night 0 tells nothing", x.fits(), 2);
        SeanceStreet last = Check.townOf(drift + ";heard pe x night 60");
        CHECK.due("fitAt(0), 60 on is 4", last.fitAt(0), 0);
        CHECK.due("fits()", last.fits(), 1);
        SeanceStreet twice = Check.townOf(drift + ";heard pb x night 60");
        CHECK.due("fitAt(0), 120 on is 1", twice.fitAt(0), 1);
        CHECK.due("judge()", twice.judge(), 0);
    }

    private static void chat() {
        CHECK.by("44: What the bishop (or ofSweep, the sweep) has, and soot is so much (0 .. 9)");
        SeanceStreet x = Check.townOf(Towns.PAIR);
        int[] soots = {0, 1, 2, 3, 9};
        for (int soot : soots) {
            CHECK.due("chat(" + soot + "), who listens to one who talks", x.chat(soot, false, true, false), 2 - soot);
            CHECK.due("chat(" + soot + "), the sweep listens", x.chat(soot, true, false, true), 2 - soot);
            CHECK.due("trouble()", x.trouble(), 0);
            CHECK.due("chat(" + soot + "), who talks", x.chat(soot, true, false, false), 3);
            CHECK.due("chat(" + soot + "), both talk", x.chat(soot, true, true, true), 0);
            CHECK.due("chat(" + soot + "), both listen", x.chat(soot, false, false, false), 1);
        }
        CHECK.due("chat(3), -1 is no refusal", x.chat(3, false, true, false), -1);
        CHECK.due("trouble()", x.trouble(), 0);
        CHECK.by("44: -100: 1 (no TOWN); 2");
        for (int soot : new int[] {-1, 10, Integer.MIN_VALUE, Integer.MAX_VALUE}) {
            CHECK.refused(x, "chat(" + soot + ")", x.chat(soot, false, true, false), -100, 2);
        }
        SeanceStreet none = new SeanceStreet();
        CHECK.refused(none, "chat(0), no TOWN", none.chat(0, false, true, false), -100, 1);
        CHECK.refused(none, "chat(10), no TOWN", none.chat(10, false, true, false), -100, 1);
    }

    private static void rests() {
        CHECK.by("45: How many RESTS (III: a pair by which neither could have more alone)");
        SeanceStreet x = Check.townOf(Towns.PAIR);
        int[] due = {2, 2, 3, 1, 1, 1, 1, 1, 1, 1};
        for (int soot = 0; soot <= 9; soot++) {
            CHECK.due("rests(" + soot + ")", x.rests(soot), due[soot]);
        }
        CHECK.refused(x, "rests(10)", x.rests(10), -1, 2);
        CHECK.refused(x, "rests(-1)", x.rests(-1), -1, 2);
    }

    private static void rest() {
        CHECK.by("46: The first (listening ahead, the bishop's first): 10 if the bishop talks, and 1 if the sweep does");
        SeanceStreet x = Check.townOf(Towns.PAIR);
        int[] due = {1, 1, 1, 11, 11, 11, 11, 11, 11, 11};
        for (int soot = 0; soot <= 9; soot++) {
            CHECK.due("rest(" + soot + ")", x.rest(soot), due[soot]);
            CHECK.due("trouble()", x.trouble(), 0);
        }
        CHECK.by("46: NONE: likewise");
        CHECK.refused(x, "rest(10)", x.rest(10), -1, 2);
        CHECK.refused(x, "rest(-1)", x.rest(-1), -1, 2);
        SeanceStreet none = new SeanceStreet();
        CHECK.refused(none, "rest(10), no TOWN", none.rest(10), -1, 1);
    }

    private static void part(String call, long upper, long lower, long dueUpper, long dueLower) {
        CHECK.due(call + ", the upper", upper, dueUpper);
        CHECK.due(call + ", the lower", lower, dueLower);
    }

    private static void odds(SeanceStreet x, int d, int night, long upper, long lower) {
        part("odds(" + d + ", " + night + ")", x.odds(d, night, false), x.odds(d, night, true), upper, lower);
    }

    private static void mostOf(SeanceStreet x, int many, long upper, long lower) {
        part("most(" + many + ", 0)", x.most(many, 0, false), x.most(many, 0, true), upper, lower);
    }

    private static void meanOf(SeanceStreet x, int p, long upper, long lower) {
        part("mean(" + p + ", 0)", x.mean(p, 0, false), x.mean(p, 0, true), upper, lower);
    }

    /** A full ring, in which a house further on is another's; da is right, db a house behind. */
    private static SeanceStreet lips(int lips) {
        return Check.townOf(Texts.people(6, lips, 6) + ";dead da late slip 0 for pa;dead db early slip 1 for pa");
    }

    private static void noneByOne() {
        CHECK.by("47: in lowest terms (0 by 1)");
        SeanceStreet x = Check.townOf(Texts.people(6, 50, 6) + ";dead da late slip 2 for pa;dead db late slip 0 for pa");
        odds(x, 0, 0, 0, 1);
        CHECK.due("trouble()", x.trouble(), 0);
        odds(x, 1, 0, 1, 2);
        int[][] terms = {{1, 99, 100}, {2, 49, 50}, {4, 24, 25}, {5, 19, 20}, {10, 9, 10}, {20, 4, 5}, {25, 3, 4}, {50, 1, 2},
            {75, 1, 4}, {80, 1, 5}, {99, 1, 100}, {37, 63, 100}};
        for (int[] row : terms) {
            odds(lips(row[0]), 0, 0, row[1], row[2]);
        }
        SeanceStreet alone = Check.townOf("town houses 40 lips 37;person a house 0;dead x late slip 9 for a");
        odds(alone, 0, 99, 1, 1);
    }

    private static void lipsAllOrNothing() {
        CHECK.by("III: LIPS by chance: each saying, as likely as told (0; 100 in a hundred)");
        SeanceStreet never = lips(0);
        odds(never, 0, 0, 1, 1);
        odds(never, 1, 0, 0, 1);
        CHECK.due("heardBy(0, 0, 99)", never.heardBy(0, 0, 99), 0);
        CHECK.due("rights(0, 99)", never.rights(0, 99), 99);
        SeanceStreet always = lips(100);
        odds(always, 0, 0, 0, 1);
        odds(always, 1, 0, 1, 1);
        CHECK.due("heardBy(0, 0, 99)", always.heardBy(0, 0, 99), 1);
        CHECK.due("heardBy(1, 65536, 99)", always.heardBy(1, 65536, 99), 0);
        CHECK.due("rights(0, 99)", always.rights(0, 99), 99);
        CHECK.due("hears(0, 0), no lips in it", always.hears(0, 0), 0);
    }

    private static void most() {
        CHECK.by("48: How likely so many (0 .. 6) or more are RIGHT on a night, likewise");
        SeanceStreet half = Check.townOf(Texts.people(6, 50, 6) + Texts.dead(6, "late", 0, "pa"));
        long[][] due = {{1, 1}, {63, 64}, {57, 64}, {21, 32}, {11, 32}, {7, 64}, {1, 64}};
        for (int many = 0; many <= 6; many++) {
            mostOf(half, many, due[many][0], due[many][1]);
        }
        CHECK.refused(half, "most(7, 0)", half.most(7, 0, false), -1, 2);
        CHECK.refused(half, "most(-1, 0)", half.most(-1, 0, false), -1, 2);
        SeanceStreet none = Check.townOf(Towns.PAIR);
        mostOf(none, 0, 1, 1);
        mostOf(none, 1, 0, 1);
        mostOf(none, 6, 0, 1);
        CHECK.due("trouble(), more than there are dead", none.trouble(), 0);
        SeanceStreet fine = Check.townOf(Texts.people(6, 99, 6) + Texts.dead(6, "late", 0, "pa"));
        mostOf(fine, 6, 1, 1000000000000L);
        mostOf(fine, 1, 1000000000000L - 941480149401L, 1000000000000L);
        SeanceStreet always = Check.townOf(Texts.people(6, 100, 6) + Texts.dead(6, "late", 0, "pa"));
        mostOf(always, 0, 1, 1);
        mostOf(always, 1, 0, 1);
        // Each for itself, whatever the lips are: one certain, one never.
        SeanceStreet mixed = Check.townOf("town houses 9 lips 30;person a house 0;person b house 4;"
            + "dead x late slip 2 for b;dead y late slip 7 for b");
        // x at 6 is a's both ways; y at 11, that is 2, is b's both ways.
        mostOf(mixed, 1, 1, 1);
        mostOf(mixed, 2, 0, 1);
    }

    private static void mean() {
        CHECK.by("49: The mean of how many a person HEARS on a night, likewise");
        SeanceStreet x = Check.townOf(Texts.people(6, 25, 6) + Texts.dead(6, "late", 0, "pf"));
        meanOf(x, 5, 9, 2);
        meanOf(x, 0, 3, 2);
        meanOf(x, 1, 0, 1);
        CHECK.due("trouble()", x.trouble(), 0);
        SeanceStreet alone = Check.townOf("town houses 40 lips 33;person pa house 0" + Texts.dead(6, "late", 5, "pa"));
        meanOf(alone, 0, 6, 1);
        meanOf(Check.townOf(Towns.PAIR), 0, 0, 1);
        meanOf(lips(100), 0, 1, 1);
    }

    private static void aHouseFurtherOn() {
        CHECK.by("III: COMES OUT a house further on (than where it would else, a mirror seen to)");
        // Past the last house; and by a mirror on, not back.
        SeanceStreet x = Check.townOf(Texts.people(6, 100, 6) + ";dead x late slip 0 for pf;dead y late slip 1 for pa;"
            + "mirror y 0");
        CHECK.due("heardBy(0, 0, 0), from the last house", x.heardBy(0, 0, 0), 0);
        meanOf(x, 0, 2, 1);
        CHECK.due("heardBy(1, 0, 0), 5 by the mirror, 0 then", x.heardBy(1, 0, 0), 0);
        odds(x, 1, 0, 1, 1);
    }

    private static void seeds() {
        CHECK.by("50: by a SEED (0 .. 65,536)");
        // 0 draws 74; 65,535 draws 65,461 and 61; 65,536 draws itself, 36; 873 draws 65,549 less 65,537, 12.
        int[][] rows = {{0, 74}, {65535, 61}, {65536, 36}, {873, 12}, {1, 49}};
        for (int[] row : rows) {
            CHECK.due("seed " + row[0] + ", lips as drawn", lips(row[1]).heardBy(0, row[0], 0), 0);
            CHECK.due("seed " + row[0] + ", lips one more", lips(row[1] + 1).heardBy(0, row[0], 0), 1);
            CHECK.due("rights, lips as drawn", lips(row[1]).rights(row[0], 1) >= 1, true);
        }
        SeanceStreet x = lips(50);
        for (int seed : new int[] {-1, 65537, Integer.MIN_VALUE, Integer.MAX_VALUE}) {
            CHECK.refused(x, "heardBy(0, " + seed + ", 0)", x.heardBy(0, seed, 0), -1, 2);
            CHECK.refused(x, "rights(" + seed + ", 0)", x.rights(seed, 0), -1, 2);
        }
    }

    private static void belowLips() {
        CHECK.by("III: a DRAW mod 100: below lips it does");
        // 65,536 becomes itself, each draw is 36.
        SeanceStreet at = lips(36);
        SeanceStreet below = lips(37);
        for (int night : new int[] {0, 1, 98, 99}) {
            CHECK.due("heardBy(0, 65536, " + night + "), 36 isn't below 36", at.heardBy(0, 65536, night), 0);
            CHECK.due("heardBy(0, 65536, " + night + "), 36 is below 37", below.heardBy(0, 65536, night), 1);
        }
        CHECK.due("rights(65536, 99)", at.rights(65536, 99), 99);
        CHECK.due("rights(65536, 99)", below.rights(65536, 99), 99);
        // 75 times 45,438 and 74 are 52 times 65,537.
        int zero = 45438;
        CHECK.due("heardBy, a draw of 0, lips 0", lips(0).heardBy(0, zero, 0), 0);
        CHECK.due("heardBy, a draw of 0, lips 1", lips(1).heardBy(0, zero, 0), 1);
    }

    private static void nightByNight() {
        CHECK.by("III: a DRAW mod 100 for each dead, by numbers, night by night; 50: DRAWS from night 0 on");
        // From 0: 74, 24, 52, 90, 41, by twos.
        SeanceStreet x = lips(50);
        int[][] due = {{0, 0, 0}, {0, 1, 0}, {1, 0, 0}, {1, 1, 5}, {2, 0, 1}};
        for (int[] row : due) {
            CHECK.due("heardBy(" + row[1] + ", 0, " + row[0] + ")", x.heardBy(row[1], 0, row[0]), row[2]);
        }
        x.night();
        x.night();
        CHECK.due("heardBy(0, 0, 2), whatever night it is NOW", x.heardBy(0, 0, 2), 1);
        CHECK.due("rights(0, 2)", x.rights(0, 2), 3);
    }

    private static void noneInNone() {
        CHECK.by("51: in nights 0 .. n less 1 (n 0 .. 99; none in none)");
        SeanceStreet x = lips(0);
        CHECK.due("rights(0, 0)", x.rights(0, 0), 0);
        CHECK.due("trouble()", x.trouble(), 0);
        CHECK.due("rights(0, 1)", x.rights(0, 1), 1);
        CHECK.due("rights(0, 99)", x.rights(0, 99), 99);
        CHECK.refused(x, "rights(0, 100)", x.rights(0, 100), -1, 2);
        CHECK.refused(x, "rights(0, -1)", x.rights(0, -1), -1, 2);
        SeanceStreet six = Check.townOf(Texts.people(6, 0, 6) + Texts.dead(6, "late", 0, "pa"));
        CHECK.due("rights(65536, 99), all six each night", six.rights(65536, 99), 594);
        CHECK.due("rights(0, 99), no dead", Check.townOf(Towns.PAIR).rights(0, 99), 0);
    }
}
