/** Promises 1 to 5: a new object, THE TAPE, the text of a TOWN with its FAULTS. */
public final class TextTest {
    private static final Check CHECK = new Check("TextTest");
    private static final String TOWN = "town houses 10 lips 5";
    private static final String ANN = TOWN + ";person ann house 1";
    private static final String JOE = ANN + ";dead joe late slip 2 for ann";

    public static void main(String[] args) {
        aNewObject();
        theTape();
        theTownIsReplaced();
        form();
        names();
        again();
        bounds();
        many();
        lacks();
        theFirstFaultCounts();
        goodTexts();
        CHECK.end();
    }

    private static void aNewObject() {
        SeanceStreet x = new SeanceStreet();
        CHECK.due("trouble()", x.trouble(), 0);
        CHECK.due("fault()", x.fault(), 0);
        CHECK.due("where()", x.where(), -1);
        for (int what = 0; what <= 10; what++) {
            CHECK.due("size(" + what + ")", x.size(what), 0);
        }
        CHECK.refused(x, "house(0)", x.house(0), -1, 1);
        CHECK.refused(x, "person(0, 0)", x.person(0, 0), -1, 1);
        CHECK.due("led(0)", Check.led(x, 0), -9);
    }

    private static void theTape() {
        SeanceStreet x = new SeanceStreet();
        CHECK.refused(x, "undo()", x.undo(), 6);
        for (int k = 1; k <= 40; k++) {
            CHECK.due("feed " + k, x.feed(0, 0, 0, 0, 0), 20 * k);
        }
        CHECK.due("feed 41", x.feed(0, 0, 0, 0, 0), -1);
        CHECK.due("size(10)", x.size(10), 800);
        CHECK.due("trouble(), no feed tells one", x.trouble(), 6);
        CHECK.refused(x, "town(801)", x.town(801), -1, 2);
        CHECK.refused(x, "town(-1)", x.town(-1), -1, 2);
        CHECK.due("size(10), the tape stays", x.size(10), 800);
        CHECK.refused(x, "town(800)", x.town(800), -1, 4);
        CHECK.due("where()", x.where(), 0);
        CHECK.due("size(10), it is empty", x.size(10), 0);

        // Of each number the highest byte first: "town", " hou", "ses ", "2 li", "ps 0".
        x.feed(0x746f776e, 0x20686f75, 0x73657320, 0x32206c69, 0x70732030);
        Check.feed(x, Check.bytesOf(";person a house 1"));
        CHECK.due("town(37)", x.town(37), 1);
        CHECK.due("size(0)", x.size(0), 2);
    }

    private static void theTownIsReplaced() {
        SeanceStreet x = Check.townOf(JOE + ";mirror joe 4");
        x.night();
        x.image();
        CHECK.due("a fault", Check.tell(x, "town"), -1);
        CHECK.due("fault()", x.fault(), 1);
        CHECK.due("where()", x.where(), 4);
        CHECK.due("size(0), the town stays", x.size(0), 10);
        CHECK.due("trouble() behind size", x.trouble(), 4);
        CHECK.due("where() behind size", x.where(), 4);
        CHECK.due("size(7), with its night", x.size(7), 1);
        CHECK.due("size(8), its acts", x.size(8), 1);
        CHECK.due("size(9), its images", x.size(9), 1);
        CHECK.due("house(1)", x.house(1), 0);
        CHECK.due("where() behind a call that may be refused", x.where(), -1);
        CHECK.due("fault() still", x.fault(), 1);
        CHECK.due("town(1) with no tape", x.town(1), -1);
        CHECK.due("fault(), not of one refused by 2", x.fault(), 1);
        CHECK.due("where()", x.where(), -1);
        CHECK.due("another town", Check.tell(x, "town houses 3 lips 7;person a house 0;person b house 2"), 2);
        CHECK.due("trouble()", x.trouble(), 0);
        CHECK.due("fault()", x.fault(), 0);
        int[] sizes = {3, 7, 2, 0, 0, 0, 0, 0, 0, 0, 0};
        for (int what = 0; what <= 10; what++) {
            CHECK.due("size(" + what + ")", x.size(what), sizes[what]);
        }
        CHECK.due("size(11)", x.size(11), -1);
        CHECK.due("size(-1)", x.size(-1), -1);
        CHECK.due("undo()", x.undo(), false);
        CHECK.due("back(0)", x.back(0), false);

        byte[] bytes = Check.bytesOf("town houses 3 lips 7;person a house 0;person b house 2");
        Check.feed(x, bytes);
        CHECK.due("the first bytes alone", x.town("town houses 3 lips 7;person a house 0".length()), 1);
        CHECK.due("size(10), all of it is gone", x.size(10), 0);
    }

    private static void fault(String text, int number, int place) {
        SeanceStreet x = new SeanceStreet();
        CHECK.refused(x, "town: " + text, Check.tell(x, text), -1, 4);
        CHECK.due("fault(): " + text, x.fault(), number);
        CHECK.due("where(): " + text, x.where(), place);
        CHECK.due("size(2): " + text, x.size(2), 0);
    }

    /** A fault at the place where the rest begins. */
    private static void faultAt(int number, String ahead, String rest) {
        fault(ahead + rest, number, ahead.length());
    }

    private static void form() {
        faultAt(1, "", "");
        faultAt(1, "   ", "");
        faultAt(1, "", ";");
        faultAt(1, " ", "5");
        faultAt(1, "", "Town");
        faultAt(1, "", "toun houses 10 lips 5");
        faultAt(1, "town", "");
        faultAt(1, "town ", "house 10");
        faultAt(1, "town houses ", "ten");
        faultAt(1, "town houses ", ";");
        faultAt(1, "town houses ", "0010 lips 5");
        faultAt(1, "town houses ", "9999");
        faultAt(1, "town houses 10 ", "lip 5");
        faultAt(1, "town houses 10  ", "");
        faultAt(1, TOWN + " ", "5");
        faultAt(1, TOWN + ";", "");
        faultAt(1, TOWN + ";", ";person a house 1");
        faultAt(1, ANN + ";", "");
        faultAt(1, ANN + ";", "house 4");
        faultAt(1, ANN, ",");
        faultAt(1, ANN, "\t");
        faultAt(1, ANN, "\n");
        faultAt(1, ANN, "" + (char) 0);
        faultAt(1, ANN, "" + (char) 233);
        faultAt(1, ANN + " ", "x");
        faultAt(1, TOWN + ";person ", "abcdefghi house 1");
        faultAt(1, TOWN + ";person ", "5 house 1");
        faultAt(1, TOWN + ";person ann house ", "-1");
        faultAt(1, ANN + ";dead joe ", "lost slip 1 for ann");
        faultAt(1, ANN + ";dead joe late ", "slips 1 for ann");
        faultAt(1, ANN + ";dead joe late slip 1 ", "to ann");
        faultAt(1, ANN + ";dead joe late slip 1 for ", "7");
        faultAt(1, JOE + ";mirror joe ", "ann");
        faultAt(1, JOE + ";heard ann joe ", "on 3");
        for (String word : new String[] {"town", "person", "dead", "mirror", "unsure", "heard"}) {
            faultAt(1, TOWN + ";person ", word + " house 1");
            faultAt(1, ANN + ";dead ", word + " late slip 1 for ann");
            faultAt(1, JOE + ";mirror ", word + " 1");
            faultAt(1, JOE + ";unsure ", word + " 1");
            faultAt(1, JOE + ";heard ", word + " joe night 1");
        }
    }

    private static void names() {
        faultAt(2, ANN + ";dead joe late slip 2 for ", "bob");
        faultAt(2, ANN + ";dead joe late slip 2 for ", "joe");
        faultAt(2, JOE + ";dead may late slip 2 for ", "joe");
        faultAt(2, JOE + ";mirror ", "ann 3");
        faultAt(2, JOE + ";mirror ", "may 3");
        faultAt(2, JOE + ";unsure ", "ann 3");
        faultAt(2, JOE + ";heard ", "joe joe night 1");
        faultAt(2, JOE + ";heard ann ", "ann night 1");
        faultAt(2, JOE + ";heard ann ", "jo night 1");
        faultAt(2, JOE + ";heard ", "annn joe night 1");
        faultAt(2, TOWN + ";heard ", "ann");
        faultAt(2, TOWN + ";dead joe late slip 1 for ", "ann;person ann house 1");
    }

    private static void again() {
        faultAt(3, ANN + ";person ", "ann house 2");
        faultAt(3, JOE + ";person ", "joe house 2");
        faultAt(3, JOE + ";dead ", "joe late slip 2 for ann");
        faultAt(3, JOE + ";dead ", "ann late slip 2 for ann");
        faultAt(3, ANN + ";person bob house ", "1");
        faultAt(3, ANN + ";person bob house ", "01");
        faultAt(3, JOE + ";mirror joe 1;mirror ", "joe 2");
        faultAt(3, JOE + ";unsure joe 1;unsure ", "joe 2");
        faultAt(3, JOE + ";heard ann joe night 5;heard ann joe night ", "5");
        faultAt(3, JOE + ";person bob house 2;heard ann joe night 5;heard bob joe night ", "005");
        faultAt(3, TOWN + ";", "town houses 10 lips 5");
        faultAt(3, ANN + ";", "town");
    }

    private static void bounds() {
        faultAt(4, "town houses ", "1 lips 5");
        faultAt(4, "town houses ", "41 lips 5");
        faultAt(4, "town houses ", "0");
        faultAt(4, "town houses 10 lips ", "101");
        faultAt(4, "town houses 10 lips ", "999;person ann house 1");
        faultAt(4, TOWN + ";person ann house ", "10");
        faultAt(4, ANN + ";dead joe late slip ", "40 for ann");
        faultAt(4, JOE + ";mirror joe ", "10");
        faultAt(4, JOE + ";unsure joe ", "40");
        faultAt(4, JOE + ";heard ann joe night ", "61");
    }

    private static void many() {
        String people = "town houses 40 lips 0";
        for (int p = 0; p < 6; p++) {
            people += ";person p" + "abcdef".charAt(p) + " house " + p;
        }
        faultAt(5, people + ";", "person");
        faultAt(5, people + ";", "person pa house 0");
        String dead = people;
        for (int d = 0; d < 6; d++) {
            dead += ";dead d" + "abcdef".charAt(d) + " swing slip 39 for pf";
        }
        faultAt(5, dead + ";", "dead");
        String unsure = dead + ";unsure da 1;unsure db 2;unsure dc 3;unsure dd 39";
        faultAt(5, unsure + ";", "unsure de 5");
        String heard = unsure;
        for (int k = 0; k < 8; k++) {
            heard += ";heard pa df night " + (53 + k);
        }
        faultAt(5, heard + ";", "heard pa de night 0");
        String full = heard + ";mirror da 39;mirror db 0;mirror dc 1;mirror dd 2;mirror de 3;mirror df 4";
        SeanceStreet x = Check.townOf(full);
        int[] sizes = {40, 0, 6, 6, 6, 4, 8};
        for (int what = 0; what < sizes.length; what++) {
            CHECK.due("size(" + what + ") of a full town", x.size(what), sizes[what]);
        }
        faultAt(3, full + ";mirror ", "da 1");
    }

    private static void lacks() {
        for (String word : new String[] {"person", "dead", "mirror", "unsure", "heard"}) {
            faultAt(6, "", word);
            faultAt(6, "  ", word + " a b c 99;" + TOWN);
        }
        faultAt(6, TOWN, "");
        faultAt(6, TOWN + "   ", "");
        faultAt(1, TOWN + ";", "");
    }

    private static void theFirstFaultCounts() {
        faultAt(4, "town houses ", "41 lips 101;person person");
        faultAt(2, JOE + ";mirror ", "ann 99");
        faultAt(3, JOE + ";mirror joe 3;mirror ", "joe 99");
        faultAt(3, JOE + ";unsure joe 3;unsure ", "joe x");
        faultAt(3, ANN + ";person ", "ann#");
        faultAt(1, ANN, "#;person ann");
        faultAt(4, ANN + ";person bob house ", "99 99");
    }

    private static void good(String text, int people) {
        SeanceStreet x = new SeanceStreet();
        CHECK.due("town: " + text, Check.tell(x, text), people);
        CHECK.due("trouble(): " + text, x.trouble(), 0);
        CHECK.due("fault(): " + text, x.fault(), 0);
        CHECK.due("where(): " + text, x.where(), -1);
    }

    private static void goodTexts() {
        good("town houses 2 lips 0;person a house 0", 1);
        good("town houses 40 lips 100;person abcdefgh house 39", 1);
        good("  town   houses 10 lips 5 ; person ann house 1  ", 1);
        good("town houses10lips5;person ann house1", 1);
        good("town houses 010 lips 005;person ann house 001", 1);
        good("town houses 9 lips 5;person late house 1;person house house 2;dead slip late slip 3 for house;"
            + "dead for early slip 0 for late;mirror for 8;heard late slip night 60;heard late for night 60", 2);
        good(JOE + ";person bob house 9;dead may swing slip 39 for bob;unsure joe 2;heard ann joe night 0", 2);
        SeanceStreet x = Check.townOf("town houses 010 lips 005;person ann house 007");
        CHECK.due("size(0)", x.size(0), 10);
        CHECK.due("size(1)", x.size(1), 5);
        CHECK.due("person(0, 0)", x.person(0, 0), 7);
    }
}
