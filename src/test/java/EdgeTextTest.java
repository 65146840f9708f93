import java.util.ArrayList;
import java.util.List;

/** Term I and promises 1 to 5 at their bounds, a method for each sentence that names one. */
public final class EdgeTextTest {
    private static final Check CHECK = new Check("EdgeTextTest");
    private static final Texts TEXTS = new Texts(CHECK);
    private static final String TOWN = Texts.TOWN;
    private static final String ANN = Texts.ANN;
    private static final String JOE = Texts.JOE;
    private static final String EVERY_SORT = "town houses 10 lips 5;person ann house 1;person bob house 9;"
        + "dead joe late slip 2 for ann;dead may swing slip 39 for bob;mirror joe 9;unsure may 0;unsure joe 39;"
        + "heard ann joe night 60;heard bob may night 0";

    public static void main(String[] args) {
        aNewObject();
        twentyBytes();
        noMoreThanTheTapeHas();
        aTextAsLongAsTheTape();
        blanks();
        words();
        wholes();
        bytesThatBeginNoToken();
        lines();
        boundsOfWholes();
        roomForLines();
        lawsAndWords();
        namesThatAreNone();
        namesToldOnce();
        namesAheadOfTheirUse();
        eachOnce();
        townAheadOfAll();
        theEnd();
        aTokenWithWhichNoTownGoesOn();
        theFirstFromTheLeft();
        ofOnePlaceTheLeast();
        theFirstBytes();
        howManyPeople();
        refusedByTwo();
        refusedByFour();
        aNewTown();
        theFault();
        itsPlace();
        CHECK.end();
    }

    private static void aNewObject() {
        CHECK.by("1: No TOWN.");
        SeanceStreet x = new SeanceStreet();
        for (int what = 0; what <= 10; what++) {
            CHECK.due("size(" + what + ")", x.size(what), 0);
        }
        CHECK.due("trouble()", x.trouble(), 0);
        CHECK.due("fault()", x.fault(), 0);
        CHECK.due("where()", x.where(), -1);
        CHECK.due("led(0)", Check.led(x, 0), -9);
        CHECK.refused(x, "right(0)", x.right(0), -1, 1);
    }

    private static void twentyBytes() {
        CHECK.by("2: Twenty bytes come behind THE TAPE, of each number the highest first: how many it has");
        for (int k = 0; k < 20; k++) {
            SeanceStreet x = new SeanceStreet();
            byte[] bytes = Check.bytesOf(" ".repeat(k) + "#");
            int[] n = Check.numbersOf(bytes, 0);
            CHECK.due("feed", x.feed(n[0], n[1], n[2], n[3], n[4]), 20);
            x.town(20);
            CHECK.due("where(), byte " + k, x.where(), k);
        }
        SeanceStreet x = new SeanceStreet();
        CHECK.due("feed of blanks", x.feed(0x20202020, 0x20202020, 0x20202020, 0x20202020, 0x20202020), 20);
        CHECK.due("feed of high bytes", x.feed(-1, -1, -1, -1, Integer.MIN_VALUE), 40);
        x.town(40);
        CHECK.due("where(), behind the first twenty", x.where(), 20);
        CHECK.due("feed upon a town()", x.feed(0, 0, 0, 0, 0), 20);
    }

    private static void noMoreThanTheTapeHas() {
        CHECK.by("2: NONE, and none comes, if there would be more than 800");
        SeanceStreet x = new SeanceStreet();
        byte[] text = Check.bytesOf(ANN);
        Check.feed(x, text);
        for (int have = x.size(10); have < 800; have += 20) {
            CHECK.due("feed upon " + have, x.feed(0x20202020, 0x20202020, 0x20202020, 0x20202020, 0x20202020), have + 20);
        }
        for (int k = 0; k < 3; k++) {
            CHECK.due("feed upon 800", x.feed(-1, -1, -1, -1, -1), -1);
            CHECK.due("size(10)", x.size(10), 800);
        }
        CHECK.due("trouble(), no number is told of feed", x.trouble(), 0);
        CHECK.due("town(800), all as it was", x.town(800), 1);
        CHECK.due("feed, there is room again", x.feed(1, 2, 3, 4, 5), 20);
    }

    private static void aTextAsLongAsTheTape() {
        CHECK.by("I: THE TAPE has 800 bytes");
        String blanks = " ".repeat(800 - ANN.length());
        TEXTS.good(ANN + blanks, 1);
        TEXTS.good(blanks + ANN, 1);
        TEXTS.faultAt(1, ANN + blanks.substring(1), "#");
        TEXTS.faultAt(1, ANN + blanks.substring(1) + ";", "");
        TEXTS.faultAt(6, TOWN + " ".repeat(800 - TOWN.length()), "");
        TEXTS.faultAt(1, TOWN + ";person ", "a".repeat(800 - TOWN.length() - 8));
        TEXTS.faultAt(1, "town houses ", "9".repeat(788));
    }

    private static void blanks() {
        CHECK.by("I: blanks, 32, part TOKENS and mean nothing else");
        TEXTS.good(TOWN + ";person ann house 1", 1);
        TEXTS.good("   " + TOWN.replace(" ", "   ") + "   ;   person   ann   house   1   ", 1);
        TEXTS.good("town houses10lips5;person ann house1", 1);
        TEXTS.faultAt(1, "", "to wn houses 10 lips 5");
        TEXTS.faultAt(1, "town ", "hous es 10 lips 5");
        TEXTS.faultAt(1, "town houses 4 ", "0 lips 5");
        TEXTS.faultAt(1, TOWN + ";person a ", "nn house 1");
        TEXTS.faultAt(1, "", "townhouses 10 lips 5");
        TEXTS.faultAt(1, "", "townhous 10 lips 5");
    }

    private static void words() {
        CHECK.by("I: WORDS of 1 to 8 small letters that stand together");
        TEXTS.good(TOWN + ";person a house 1;person z house 2;person az house 3", 3);
        TEXTS.good(TOWN + ";person abcdefgh house 1;person zzzzzzzz house 2;person zzzzzzz house 3", 3);
        TEXTS.faultAt(1, TOWN + ";person ", "abcdefghi house 1");
        TEXTS.faultAt(1, TOWN + ";person ", "zzzzzzzzz house 1");
        TEXTS.faultAt(1, TOWN + ";person ", "aaaaaaaaaaaaaaaa house 1");
        TEXTS.faultAt(1, TOWN + ";person ", "Ann house 1");
        TEXTS.faultAt(1, TOWN + ";person a", "Nn house 1");
        // Names that differ in length alone, or in one letter, are others.
        TEXTS.faultAt(2, TOWN + ";person aa house 1;dead x late slip 1 for ", "a");
        TEXTS.faultAt(2, TOWN + ";person a house 1;dead x late slip 1 for ", "aa");
        TEXTS.faultAt(2, TOWN + ";person abcdefgh house 1;dead x late slip 1 for ", "abcdefg");
        TEXTS.faultAt(2, TOWN + ";person ba house 1;dead x late slip 1 for ", "ab");
    }

    private static void wholes() {
        CHECK.by("I: WHOLES of 1 to 3 digits that do");
        TEXTS.good("town houses 9 lips 9;person a house 8", 1);
        TEXTS.good("town houses 040 lips 100;person a house 039", 1);
        TEXTS.good("town houses 002 lips 000;person a house 001;person b house 000", 2);
        TEXTS.faultAt(1, "town houses ", "0010 lips 5");
        TEXTS.faultAt(1, "town houses 10 lips ", "0005");
        TEXTS.faultAt(1, TOWN + ";person ann house ", "0001");
        TEXTS.faultAt(1, TOWN + ";person ann house ", "4294967297");
        TEXTS.faultAt(1, ANN + ";dead joe late slip ", "18446744073709551617 for ann");
    }

    private static void bytesThatBeginNoToken() {
        CHECK.by("I: FORM: the first byte that begins no TOKEN");
        for (int b = 0; b < 256; b++) {
            String one = String.valueOf((char) b);
            if (b == ' ') {
                TEXTS.good(ANN + one, 1);
            } else if (b == ';') {
                TEXTS.faultAt(1, ANN + one, "");
            } else {
                TEXTS.faultAt(1, ANN + " ", one);
                TEXTS.faultAt(1, TOWN + ";", one.matches("[a-z]") ? one + "x" : one);
            }
        }
    }

    private static void lines() {
        CHECK.by("I: LINE {; LINE}");
        TEXTS.good(EVERY_SORT, 2);
        TEXTS.faultAt(1, "", ";" + ANN);
        TEXTS.faultAt(1, ANN + ";", "");
        TEXTS.faultAt(1, TOWN + ";", ";person ann house 1");
        TEXTS.faultAt(1, TOWN + " ", "person ann house 1");
        TEXTS.faultAt(1, ANN + " ", "1");
        TEXTS.faultAt(1, ANN + ";", "ann");
    }

    private static void bound(String ahead, int least, int most, String behind) {
        TEXTS.good(ahead + least + behind, 1);
        TEXTS.good(ahead + most + behind, 1);
        TEXTS.faultAt(4, ahead, most + 1 + behind);
        TEXTS.faultAt(4, ahead, "999" + behind);
        if (least > 0) {
            TEXTS.faultAt(4, ahead, least - 1 + behind);
            TEXTS.faultAt(4, ahead, "0" + behind);
        }
    }

    private static void boundsOfWholes() {
        CHECK.by("I: 4 a WHOLE out of bounds; at it (houses 2 .. 40)");
        bound("town houses ", 2, 40, " lips 5;person ann house 1");
        CHECK.by("I: 4 a WHOLE out of bounds; at it (lips 0 .. 100)");
        bound("town houses 10 lips ", 0, 100, ";person ann house 1");
        CHECK.by("I: 4 a WHOLE out of bounds; at it (a house, 0 ..)");
        bound(TOWN + ";person ann house ", 0, 9, "");
        bound("town houses 2 lips 0;person ann house ", 0, 1, "");
        bound("town houses 40 lips 0;person ann house ", 0, 39, "");
        CHECK.by("I: 4 a WHOLE out of bounds; at it (slip 0 .. 39)");
        bound(ANN + ";dead joe late slip ", 0, 39, " for ann");
        CHECK.by("I: 4 a WHOLE out of bounds; at it (the house at which a mirror is)");
        bound(JOE + ";mirror joe ", 0, 9, "");
        CHECK.by("I: 4 a WHOLE out of bounds; at it (whose slip may be that, 0 .. 39)");
        bound(JOE + ";unsure joe ", 0, 39, "");
        CHECK.by("I: 4 a WHOLE out of bounds; at it (heard, 0 .. 60)");
        bound(JOE + ";heard ann joe night ", 0, 60, "");
    }

    private static void roomForLines() {
        CHECK.by("I: 5 MANY: a LINE more of its sort than there is room for, at its first WORD (6 people)");
        String six = Texts.people(40, 0, 6);
        TEXTS.good(Texts.people(40, 0, 5), 5);
        TEXTS.good(six, 6);
        TEXTS.faultAt(5, six + ";", "person pg house 6");
        TEXTS.faultAt(5, six + ";", "person pa house 0");
        TEXTS.faultAt(5, six + ";", "person");
        TEXTS.faultAt(5, six + ";", "person #");
        CHECK.by("I: 5 MANY (6 dead)");
        String sixDead = six + Texts.dead(6, "drift", 1, "pa");
        TEXTS.good(sixDead, 6);
        TEXTS.faultAt(5, sixDead + ";", "dead dg late slip 1 for pa");
        TEXTS.faultAt(5, sixDead + ";", "dead da");
        TEXTS.faultAt(5, sixDead + ";", "dead dead");
        CHECK.by("I: 5 MANY (up to 4 unsure)");
        String four = sixDead + ";unsure df 1;unsure de 2;unsure dd 3;unsure dc 4";
        TEXTS.good(four, 6);
        TEXTS.faultAt(5, four + ";", "unsure db 5");
        TEXTS.faultAt(5, four + ";", "unsure df 1");
        CHECK.by("I: 5 MANY (up to 8 heard)");
        StringBuilder eight = new StringBuilder(sixDead);
        for (int night = 0; night < 8; night++) {
            eight.append(";heard pa da night ").append(night);
        }
        TEXTS.good(eight.toString(), 6);
        TEXTS.faultAt(5, eight + ";", "heard pa da night 8");
        TEXTS.faultAt(5, eight + ";", "heard pa da night 0");
        CHECK.by("I: mirror (each once)");
        String mirrors = six + Texts.dead(6, "late", 0, "pf");
        for (int d = 0; d < 6; d++) {
            mirrors += ";mirror d" + (char) ('a' + d) + " 39";
        }
        TEXTS.good(mirrors, 6);
        TEXTS.faultAt(3, mirrors + ";mirror ", "df 1");
    }

    private static void lawsAndWords() {
        CHECK.by("I: LAW: late, early, drift, or swing");
        String[] laws = {"late", "early", "drift", "swing"};
        for (int law = 0; law < 4; law++) {
            SeanceStreet x = Check.townOf(ANN + ";dead joe " + laws[law] + " slip 39 for ann");
            CHECK.due("dead(0, 0)", x.dead(0, 0), law);
        }
        for (String wrong : new String[] {"lat", "lates", "l", "slip", "ann", "7", ";", "Late"}) {
            TEXTS.faultAt(1, ANN + ";dead joe ", wrong + " slip 1 for ann");
        }
    }

    private static void namesThatAreNone() {
        CHECK.by("I: NAMES are WORDS but town, person, dead, mirror, unsure, heard");
        for (String word : new String[] {"town", "person", "dead", "mirror", "unsure", "heard"}) {
            TEXTS.faultAt(1, TOWN + ";person ", word + " house 1");
            TEXTS.faultAt(1, ANN + ";dead ", word + " late slip 1 for ann");
            TEXTS.faultAt(1, ANN + ";dead joe late slip 1 for ", word);
            TEXTS.faultAt(1, JOE + ";mirror ", word + " 1");
            TEXTS.faultAt(1, JOE + ";unsure ", word + " 1");
            TEXTS.faultAt(1, JOE + ";heard ", word + " joe night 1");
            TEXTS.faultAt(1, JOE + ";heard ann ", word + " night 1");
            TEXTS.good(TOWN + ";person " + word + "s house 1", 1);
            TEXTS.good(TOWN + ";person " + word.substring(1) + " house 1", 1);
        }
        for (String word : new String[] {"houses", "lips", "house", "late", "early", "drift", "swing", "slip", "for",
            "night"}) {
            TEXTS.good(TOWN + ";person " + word + " house 1;dead x late slip 1 for " + word + ";heard " + word
                + " x night 1", 1);
            TEXTS.good(ANN + ";dead " + word + " swing slip 1 for ann;mirror " + word + " 1;unsure " + word + " 2", 1);
        }
        TEXTS.faultAt(1, TOWN + ";person ", "7 house 1");
        TEXTS.faultAt(1, TOWN + ";person ", "; house 1");
        TEXTS.faultAt(1, JOE + ";mirror ", "7 1");
    }

    private static void namesToldOnce() {
        CHECK.by("I: 3 a NAME told again; at it");
        TEXTS.faultAt(3, ANN + ";person ", "ann house 2");
        TEXTS.faultAt(3, ANN + ";dead ", "ann late slip 2 for ann");
        TEXTS.faultAt(3, JOE + ";person ", "joe house 2");
        TEXTS.faultAt(3, JOE + ";dead ", "joe late slip 2 for ann");
        TEXTS.good(JOE + ";person joes house 2;person jo house 3;dead an late slip 2 for jo", 3);
        String six = Texts.people(40, 0, 6).replace("person pf house 5", "person ");
        TEXTS.faultAt(3, six, "pe house 5");
        TEXTS.faultAt(3, six, "pa house 5");
    }

    private static void namesAheadOfTheirUse() {
        CHECK.by("I: 2 a NAME that isn't told, or is of another sort than must stand there; at it");
        TEXTS.faultAt(2, TOWN + ";dead joe late slip 1 for ", "ann;person ann house 1");
        TEXTS.faultAt(2, ANN + ";dead joe late slip 1 for ", "joe");
        TEXTS.faultAt(2, JOE + ";dead may late slip 1 for ", "joe");
        TEXTS.faultAt(2, ANN + ";mirror ", "joe 1;dead joe late slip 1 for ann");
        TEXTS.faultAt(2, JOE + ";mirror ", "ann 1");
        TEXTS.faultAt(2, ANN + ";unsure ", "joe 1;dead joe late slip 1 for ann");
        TEXTS.faultAt(2, JOE + ";unsure ", "ann 1");
        TEXTS.faultAt(2, JOE + ";heard ", "bob joe night 1;person bob house 2");
        TEXTS.faultAt(2, JOE + ";heard ", "joe ann night 1");
        TEXTS.faultAt(2, JOE + ";heard ann ", "may night 1");
        TEXTS.faultAt(2, JOE + ";heard ann ", "ann night 1");
        TEXTS.good(JOE + ";mirror joe 3;person bob house 2;dead may late slip 0 for bob;heard bob joe night 3", 2);
    }

    private static void eachOnce() {
        CHECK.by("I: 3 a house in which somebody is; at it");
        TEXTS.faultAt(3, ANN + ";person bob house ", "1");
        TEXTS.faultAt(3, ANN + ";person bob house ", "001");
        TEXTS.good(ANN + ";person bob house 0;person cid house 2", 3);
        CHECK.by("I: 3 a DEAD that has a mirror, is unsure already; at it");
        TEXTS.faultAt(3, JOE + ";mirror joe 0;mirror ", "joe 0");
        TEXTS.faultAt(3, JOE + ";unsure joe 0;unsure ", "joe 0");
        TEXTS.good(JOE + ";mirror joe 0;unsure joe 0", 1);
        TEXTS.good(JOE + ";dead may late slip 0 for ann;mirror joe 0;mirror may 0;unsure may 0;unsure joe 0", 1);
        CHECK.by("I: 3 a night of a DEAD heard already; at it");
        String two = JOE + ";person bob house 2;dead may late slip 0 for bob;heard ann joe night 0";
        TEXTS.faultAt(3, two + ";heard ann joe night ", "0");
        TEXTS.faultAt(3, two + ";heard bob joe night ", "0");
        TEXTS.faultAt(3, two + ";heard ann joe night 60;heard ann joe night ", "060");
        TEXTS.good(two + ";heard ann joe night 1;heard ann may night 0;heard bob may night 1", 2);
        CHECK.by("I: 3 a second town: at that WORD");
        TEXTS.faultAt(3, TOWN + ";", TOWN);
        TEXTS.faultAt(3, ANN + ";", "town");
        TEXTS.faultAt(3, ANN + ";", "town houses 99");
    }

    private static void townAheadOfAll() {
        CHECK.by("I: 6 LACKS: any LINE ahead of the town; at its WORD");
        for (String word : new String[] {"person", "dead", "mirror", "unsure", "heard"}) {
            TEXTS.faultAt(6, "", word);
            TEXTS.faultAt(6, "  ", word + " ann house 1;" + TOWN);
            TEXTS.faultAt(6, "", word + "#");
        }
        TEXTS.faultAt(1, "", "houses 10 lips 5");
        CHECK.by("I: 6 at the end: no person");
        TEXTS.faultAt(6, TOWN, "");
        TEXTS.faultAt(6, TOWN + " ", "");
        TEXTS.faultAt(6, "town houses 2 lips 0", "");
    }

    /** The tokens of EVERY_SORT, each with its place. */
    private static List<int[]> tokensOf(String text) {
        List<int[]> tokens = new ArrayList<>();
        java.util.regex.Matcher m = java.util.regex.Pattern.compile("[a-z]+|[0-9]+|;").matcher(text);
        while (m.find()) {
            tokens.add(new int[] {m.start(), m.end()});
        }
        return tokens;
    }

    private static void theEnd() {
        CHECK.by("I: 1 FORM: TOKEN with which no TOWN goes on (the end: its place)");
        TEXTS.faultAt(1, "", "");
        TEXTS.faultAt(1, " ", "");
        TEXTS.faultAt(1, " ".repeat(800), "");
        List<int[]> tokens = tokensOf(EVERY_SORT);
        for (int k = 1; k < tokens.size(); k++) {
            String cut = EVERY_SORT.substring(0, tokens.get(k)[0]).stripTrailing();
            boolean isWhole = EVERY_SORT.charAt(tokens.get(k)[0]) == ';';
            if (!isWhole) {
                TEXTS.faultAt(1, cut, "");
                TEXTS.faultAt(1, cut + "  ", "");
            } else if (cut.equals(TOWN)) {
                TEXTS.faultAt(6, cut, "");
            } else {
                TEXTS.good(cut, cut.contains("bob") ? 2 : 1);
            }
        }
    }

    private static void aTokenWithWhichNoTownGoesOn() {
        CHECK.by("I: 1 FORM: the first byte that begins no TOKEN, or TOKEN with which no TOWN goes on");
        for (int[] token : tokensOf(EVERY_SORT)) {
            String ahead = EVERY_SORT.substring(0, token[0]);
            String behind = EVERY_SORT.substring(token[1]);
            TEXTS.faultAt(1, ahead, "#" + behind);
            TEXTS.faultAt(1, ahead + " ", "aaaaaaaaa" + behind);
            TEXTS.faultAt(1, ahead + " ", "0000" + behind);
            char first = EVERY_SORT.charAt(token[0]);
            if (first != ';') {
                TEXTS.faultAt(1, ahead, ";" + behind);
            }
            if (first < '0' || first > '9') {
                TEXTS.faultAt(1, ahead + " ", "1 " + behind);
            } else {
                TEXTS.faultAt(1, ahead, "ann" + behind);
            }
        }
    }

    private static void theFirstFromTheLeft() {
        CHECK.by("I: FAULTS, the first that is met from the left");
        TEXTS.faultAt(4, "town houses ", "41 lips 101;town;person person#");
        TEXTS.faultAt(4, "town houses 10 lips ", "101#");
        TEXTS.faultAt(3, ANN + ";person ", "ann house 99");
        TEXTS.faultAt(3, ANN + ";person ", "ann#");
        TEXTS.faultAt(4, ANN + ";dead joe late slip ", "40 for bob");
        TEXTS.faultAt(1, ANN + ";dead joe ", "lost slip 40 for bob");
        TEXTS.faultAt(2, JOE + ";mirror ", "bob 10");
        TEXTS.faultAt(3, JOE + ";mirror joe 1;mirror ", "joe 10");
        TEXTS.faultAt(2, JOE + ";heard ", "bob may night 61");
        TEXTS.faultAt(2, JOE + ";heard ann ", "may night 61");
        TEXTS.faultAt(1, ANN, "#;person ann house 1");
        TEXTS.faultAt(3, ANN + ";person bob house ", "1 1");
        TEXTS.faultAt(6, "", "person ann house 1;town");
        TEXTS.faultAt(5, Texts.people(10, 0, 6) + ";", "person pa house 99;town");
    }

    private static void ofOnePlaceTheLeast() {
        CHECK.by("I: of one place the least number");
        TEXTS.faultAt(1, TOWN + ";", "");
        TEXTS.faultAt(1, TOWN + ";  ", "");
        TEXTS.faultAt(1, "town houses 10 lips", "");
        TEXTS.faultAt(1, "", "");
    }

    private static void theFirstBytes() {
        CHECK.by("3: The first n bytes of THE TAPE (it is empty then) are the TOWN from now on");
        String text = ANN + ";person bob house 2#";
        int[][] rows = {{ANN.length(), 1}, {text.length() - 1, 2}};
        for (int[] row : rows) {
            SeanceStreet x = new SeanceStreet();
            Check.feed(x, Check.bytesOf(text));
            CHECK.due("town(" + row[0] + ")", x.town(row[0]), row[1]);
            CHECK.due("size(10)", x.size(10), 0);
            CHECK.due("size(2)", x.size(2), row[1]);
            CHECK.refused(x, "town(1), nothing is left", x.town(1), -1, 2);
        }
        SeanceStreet x = new SeanceStreet();
        Check.feed(x, Check.bytesOf(text));
        CHECK.refused(x, "town(0), no byte of them", x.town(0), -1, 4);
        CHECK.due("fault()", x.fault(), 1);
        CHECK.due("where()", x.where(), 0);
        CHECK.due("size(10), empty all the same", x.size(10), 0);
        CHECK.due("a town behind it", Check.tell(x, ANN), 1);
        SeanceStreet longer = new SeanceStreet();
        Check.feed(longer, Check.bytesOf(ANN + ";"));
        CHECK.refused(longer, "a byte too many", longer.town(ANN.length() + 1), -1, 4);
        Check.feed(longer, Check.bytesOf(ANN));
        CHECK.due("bytes of blanks", longer.town(longer.size(10)), 1);
    }

    private static void howManyPeople() {
        CHECK.by("3: how many people");
        for (int people = 1; people <= 6; people++) {
            TEXTS.good(Texts.people(6, 0, people), people);
        }
    }

    private static void refusedByTwo() {
        CHECK.by("3: NONE: 2 (THE TAPE stays)");
        for (int n : new int[] {-1, Integer.MIN_VALUE, 41, 800, 801, Integer.MAX_VALUE}) {
            SeanceStreet x = new SeanceStreet();
            Check.feed(x, Check.bytesOf(ANN));
            CHECK.refused(x, "town(" + n + ")", x.town(n), -1, 2);
            CHECK.due("size(10)", x.size(10), 40);
            CHECK.due("size(0), no town of it", x.size(0), 0);
            CHECK.due("town(40)", x.town(40), 1);
        }
        SeanceStreet x = new SeanceStreet();
        CHECK.refused(x, "town(1) of an empty tape", x.town(1), -1, 2);
        CHECK.refused(x, "town(0) of an empty tape", x.town(0), -1, 4);
        SeanceStreet old = acted();
        CHECK.refused(old, "town(1) with a town", old.town(1), -1, 2);
        staysAsActed(old);
    }

    private static SeanceStreet acted() {
        SeanceStreet x = Check.townOf(JOE + ";mirror joe 4");
        x.image();
        x.night();
        x.move(0, 9);
        x.hang(0, 0);
        x.teach(0, 39);
        return x;
    }

    private static void staysAsActed(SeanceStreet x) {
        int[] sizes = {10, 5, 1, 1, 1, 0, 0, 1, 4, 1};
        for (int what = 0; what < sizes.length; what++) {
            CHECK.due("size(" + what + "), the TOWN stays", x.size(what), sizes[what]);
        }
        CHECK.due("person(0, 0)", x.person(0, 0), 9);
        CHECK.due("dead(0, 1)", x.dead(0, 1), 39);
        CHECK.due("dead(0, 3)", x.dead(0, 3), 0);
        CHECK.due("undo()", x.undo(), true);
        CHECK.due("back(0)", x.back(0), true);
        CHECK.due("person(0, 0), by the image", x.person(0, 0), 1);
    }

    private static void refusedByFour() {
        CHECK.by("3: NONE: 4 (the TOWN stays)");
        for (String wrong : new String[] {"", "town", TOWN, "town houses 20 lips 9;person a house 1;person a",
            "town houses 2 lips 9;person a house 0;person b house 1;dead x late slip 0 for a;heard a x night 0;#"}) {
            SeanceStreet x = acted();
            CHECK.refused(x, "town: " + wrong, Check.tell(x, wrong), -1, 4);
            staysAsActed(x);
        }
        SeanceStreet fits = Check.townOf(JOE + ";unsure joe 3;heard ann joe night 0");
        Check.tell(fits, "town houses 3 lips 0;person a house 0;person b house 1;dead x late slip 1 for a;"
            + "unsure x 2;heard a x night 0;heard");
        CHECK.due("fits(), of the TOWN that stays", fits.fits(), 2);
        CHECK.due("judge()", fits.judge(), -2);
    }

    private static void aNewTown() {
        CHECK.by("3: (night 0; nothing to undo, no IMAGES)");
        SeanceStreet x = acted();
        CHECK.due("the same town", Check.tell(x, JOE + ";mirror joe 4"), 1);
        int[] sizes = {10, 5, 1, 1, 1, 0, 0, 0, 0, 0, 0};
        for (int what = 0; what <= 10; what++) {
            CHECK.due("size(" + what + ")", x.size(what), sizes[what]);
        }
        CHECK.due("person(0, 0)", x.person(0, 0), 1);
        CHECK.due("house(9)", x.house(9), -2);
        CHECK.due("dead(0, 1)", x.dead(0, 1), 2);
        CHECK.due("dead(0, 3)", x.dead(0, 3), 4);
        CHECK.refused(x, "undo()", x.undo(), 6);
        CHECK.refused(x, "back(0)", x.back(0), 1);
        // A smaller town has nothing of the larger one.
        SeanceStreet large = Check.townOf(EVERY_SORT);
        CHECK.due("a smaller one", Check.tell(large, "town houses 2 lips 0;person a house 1;dead x late slip 0 for a"), 1);
        CHECK.due("house(0)", large.house(0), -2);
        CHECK.due("dead(0, 3), no mirror", large.dead(0, 3), -2);
        CHECK.refused(large, "person(1, 0)", large.person(1, 0), -1, 1);
        CHECK.refused(large, "dead(1, 0)", large.dead(1, 0), -1, 1);
        CHECK.due("fits()", large.fits(), 1);
        CHECK.due("judge()", large.judge(), -2);
        CHECK.due("ask()", large.ask(), -2);
    }

    private static void theFault() {
        CHECK.by("4: The FAULT of the latest town() not refused by 2; 0 without one");
        SeanceStreet x = new SeanceStreet();
        CHECK.due("fault(), none yet", x.fault(), 0);
        x.town(1);
        CHECK.due("fault(), refused by 2", x.fault(), 0);
        String[] wrong = {"#", ANN + ";dead joe late slip 0 for bob", ANN + ";town", "town houses 1",
            Texts.people(9, 0, 6) + ";person", "person"};
        for (int number = 1; number <= 6; number++) {
            Check.tell(x, wrong[number - 1]);
            CHECK.due("fault()", x.fault(), number);
            x.town(1);
            CHECK.due("fault() behind town(1)", x.fault(), number);
            x.right(0);
            x.undo();
            CHECK.due("fault() behind other calls", x.fault(), number);
        }
        Check.tell(x, ANN);
        CHECK.due("fault() of a good one", x.fault(), 0);
        x.town(-1);
        CHECK.due("fault() behind town(-1)", x.fault(), 0);
    }

    private static void itsPlace() {
        CHECK.by("5: Its place, if the latest call that may be refused was by 4; NONE else");
        SeanceStreet x = new SeanceStreet();
        CHECK.due("where(), no call yet", x.where(), -1);
        Check.tell(x, "  #");
        CHECK.due("where()", x.where(), 2);
        CHECK.due("where() again", x.where(), 2);
        x.feed(0, 0, 0, 0, 0);
        x.fault();
        x.trouble();
        x.size(0);
        Check.led(x, 0);
        CHECK.due("where() behind calls that can't be refused", x.where(), 2);
        x.right(0);
        CHECK.due("where() behind right(0), refused by 1", x.where(), -1);
        x.town(20);
        CHECK.due("where()", x.where(), 0);
        x.town(1);
        CHECK.due("where() behind town(1), refused by 2", x.where(), -1);
        x.town(0);
        CHECK.due("where()", x.where(), 0);
        x.undo();
        CHECK.due("where() behind undo(), refused by 6", x.where(), -1);
        Check.tell(x, ANN);
        CHECK.due("where() of a good one", x.where(), -1);
        Check.tell(x, "town");
        CHECK.due("where()", x.where(), 4);
        x.right(0);
        CHECK.due("where() behind right(0), not refused", x.where(), -1);
    }
}
