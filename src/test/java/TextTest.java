/** Promises 1 to 5: a new object, THE TAPE, the text of a TOWN with its FAULTS. */
public final class TextTest {
    private static final Check CHECK = new Check("TextTest");
    private static final Texts TEXTS = new Texts(CHECK);
    private static final String TOWN = Texts.TOWN;
    private static final String ANN = Texts.ANN;
    private static final String JOE = Texts.JOE;

    public static void main(String[] args) {
        aNewObject();
        theTape();
        theTownIsReplaced();
        form();
        names();
        again();
        bounds();
        many();
        lacks();
        theFirstFaultCounts();
        goodTexts();
        CHECK.end();
    }

    private static void aNewObject() {
        SeanceStreet x = new SeanceStreet();
        CHECK.due("trouble()", x.trouble(), 0);
        CHECK.due("fault()", x.fault(), 0);
        CHECK.due("where()", x.where(), -1);
        for (int what = 0; what <= 10; what++) {
            CHECK.due("size(" + what + ")", x.size(what), 0);
        }
        CHECK.refused(x, "house(0)", x.house(0), -1, 1);
        CHECK.refused(x, "person(0, 0)", x.person(0, 0), -1, 1);
        CHECK.due("led(0)", Check.led(x, 0), -9);
    }

    private static void theTape() {
        SeanceStreet x = new SeanceStreet();
        CHECK.refused(x, "undo()", x.undo(), 6);
        for (int k = 1; k <= 40; k++) {
            CHECK.due("feed " + k, x.feed(0, 0, 0, 0, 0), 20 * k);
        }
        CHECK.due("feed 41", x.feed(0, 0, 0, 0, 0), -1);
        CHECK.due("size(10)", x.size(10), 800);
        CHECK.due("trouble(), no feed tells one", x.trouble(), 6);
        CHECK.refused(x, "town(801)", x.town(801), -1, 2);
        CHECK.refused(x, "town(-1)", x.town(-1), -1, 2);
        CHECK.due("size(10), the tape stays", x.size(10), 800);
        CHECK.refused(x, "town(800)", x.town(800), -1, 4);
        CHECK.due("where()", x.where(), 0);
        CHECK.due("size(10), it is empty", x.size(10), 0);

        // Of each number the highest byte first: "town", " hou", "ses ", "2 li", "ps 0".
        x.feed(0x746f776e, 0x20686f75, 0x73657320, 0x32206c69, 0x70732030);
        Check.feed(x, Check.bytesOf(";person a house 1"));
        CHECK.due("town(37)", x.town(37), 1);
        CHECK.due("size(0)", x.size(0), 2);
    }

    private static void theTownIsReplaced() {
        SeanceStreet x = Check.townOf(JOE + ";mirror joe 4");
        x.night();
        x.image();
        CHECK.due("a fault", Check.tell(x, "town"), -1);
        CHECK.due("fault()", x.fault(), 1);
        CHECK.due("where()", x.where(), 4);
        CHECK.due("size(0), the town stays", x.size(0), 10);
        CHECK.due("trouble() behind size", x.trouble(), 4);
        CHECK.due("where() behind size", x.where(), 4);
        CHECK.due("size(7), with its night", x.size(7), 1);
        CHECK.due("size(8), its acts", x.size(8), 1);
        CHECK.due("size(9), its images", x.size(9), 1);
        CHECK.due("house(1)", x.house(1), 0);
        CHECK.due("where() behind a call that may be refused", x.where(), -1);
        CHECK.due("fault() still", x.fault(), 1);
        CHECK.due("town(1) with no tape", x.town(1), -1);
        CHECK.due("fault(), not of one refused by 2", x.fault(), 1);
        CHECK.due("where()", x.where(), -1);
        CHECK.due("another town", Check.tell(x, "town houses 3 lips 7;person a house 0;person b house 2"), 2);
        CHECK.due("trouble()", x.trouble(), 0);
        CHECK.due("fault()", x.fault(), 0);
        int[] sizes = {3, 7, 2, 0, 0, 0, 0, 0, 0, 0, 0};
        for (int what = 0; what <= 10; what++) {
            CHECK.due("size(" + what + ")", x.size(what), sizes[what]);
        }
        CHECK.due("size(11)", x.size(11), -1);
        CHECK.due("size(-1)", x.size(-1), -1);
        CHECK.due("undo()", x.undo(), false);
        CHECK.due("back(0)", x.back(0), false);

        byte[] bytes = Check.bytesOf("town houses 3 lips 7;person a house 0;person b house 2");
        Check.feed(x, bytes);
        CHECK.due("the first bytes alone", x.town("town houses 3 lips 7;person a house 0".length()), 1);
        CHECK.due("size(10), all of it is gone", x.size(10), 0);
    }

    private static void form() {
        TEXTS.faultAt(1, "", "");
        TEXTS.faultAt(1, "   ", "");
        TEXTS.faultAt(1, "", ";");
        TEXTS.faultAt(1, " ", "5");
        TEXTS.faultAt(1, "", "Town");
        TEXTS.faultAt(1, "", "toun houses 10 lips 5");
        TEXTS.faultAt(1, "town", "");
        TEXTS.faultAt(1, "town ", "house 10");
        TEXTS.faultAt(1, "town houses ", "ten");
        TEXTS.faultAt(1, "town houses ", ";");
        TEXTS.faultAt(1, "town houses ", "0010 lips 5");
        TEXTS.faultAt(1, "town houses ", "9999");
        TEXTS.faultAt(1, "town houses 10 ", "lip 5");
        TEXTS.faultAt(1, "town houses 10  ", "");
        TEXTS.faultAt(1, TOWN + " ", "5");
        TEXTS.faultAt(1, TOWN + ";", "");
        TEXTS.faultAt(1, TOWN + ";", ";person a house 1");
        TEXTS.faultAt(1, ANN + ";", "");
        TEXTS.faultAt(1, ANN + ";", "house 4");
        TEXTS.faultAt(1, ANN, ",");
        TEXTS.faultAt(1, ANN, "\t");
        TEXTS.faultAt(1, ANN, "\n");
        TEXTS.faultAt(1, ANN, "" + (char) 0);
        TEXTS.faultAt(1, ANN, "" + (char) 233);
        TEXTS.faultAt(1, ANN + " ", "x");
        TEXTS.faultAt(1, TOWN + ";person ", "abcdefghi house 1");
        TEXTS.faultAt(1, TOWN + ";person ", "5 house 1");
        TEXTS.faultAt(1, TOWN + ";person ann house ", "-1");
        TEXTS.faultAt(1, ANN + ";dead joe ", "lost slip 1 for ann");
        TEXTS.faultAt(1, ANN + ";dead joe late ", "slips 1 for ann");
        TEXTS.faultAt(1, ANN + ";dead joe late slip 1 ", "to ann");
        TEXTS.faultAt(1, ANN + ";dead joe late slip 1 for ", "7");
        TEXTS.faultAt(1, JOE + ";mirror joe ", "ann");
        TEXTS.faultAt(1, JOE + ";heard ann joe ", "on 3");
        for (String word : new String[] {"town", "person", "dead", "mirror", "unsure", "heard"}) {
            TEXTS.faultAt(1, TOWN + ";person ", word + " house 1");
            TEXTS.faultAt(1, ANN + ";dead ", word + " late slip 1 for ann");
            TEXTS.faultAt(1, JOE + ";mirror ", word + " 1");
            TEXTS.faultAt(1, JOE + ";unsure ", word + " 1");
            TEXTS.faultAt(1, JOE + ";heard ", word + " joe night 1");
        }
    }

    private static void names() {
        TEXTS.faultAt(2, ANN + ";dead joe late slip 2 for ", "bob");
        TEXTS.faultAt(2, ANN + ";dead joe late slip 2 for ", "joe");
        TEXTS.faultAt(2, JOE + ";dead may late slip 2 for ", "joe");
        TEXTS.faultAt(2, JOE + ";mirror ", "ann 3");
        TEXTS.faultAt(2, JOE + ";mirror ", "may 3");
        TEXTS.faultAt(2, JOE + ";unsure ", "ann 3");
        TEXTS.faultAt(2, JOE + ";heard ", "joe joe night 1");
        TEXTS.faultAt(2, JOE + ";heard ann ", "ann night 1");
        TEXTS.faultAt(2, JOE + ";heard ann ", "jo night 1");
        TEXTS.faultAt(2, JOE + ";heard ", "annn joe night 1");
        TEXTS.faultAt(2, TOWN + ";heard ", "ann");
        TEXTS.faultAt(2, TOWN + ";dead joe late slip 1 for ", "ann;person ann house 1");
    }

    private static void again() {
        TEXTS.faultAt(3, ANN + ";person ", "ann house 2");
        TEXTS.faultAt(3, JOE + ";person ", "joe house 2");
        TEXTS.faultAt(3, JOE + ";dead ", "joe late slip 2 for ann");
        TEXTS.faultAt(3, JOE + ";dead ", "ann late slip 2 for ann");
        TEXTS.faultAt(3, ANN + ";person bob house ", "1");
        TEXTS.faultAt(3, ANN + ";person bob house ", "01");
        TEXTS.faultAt(3, JOE + ";mirror joe 1;mirror ", "joe 2");
        TEXTS.faultAt(3, JOE + ";unsure joe 1;unsure ", "joe 2");
        TEXTS.faultAt(3, JOE + ";heard ann joe night 5;heard ann joe night ", "5");
        TEXTS.faultAt(3, JOE + ";person bob house 2;heard ann joe night 5;heard bob joe night ", "005");
        TEXTS.faultAt(3, TOWN + ";", "town houses 10 lips 5");
        TEXTS.faultAt(3, ANN + ";", "town");
    }

    private static void bounds() {
        TEXTS.faultAt(4, "town houses ", "1 lips 5");
        TEXTS.faultAt(4, "town houses ", "41 lips 5");
        TEXTS.faultAt(4, "town houses ", "0");
        TEXTS.faultAt(4, "town houses 10 lips ", "101");
        TEXTS.faultAt(4, "town houses 10 lips ", "999;person ann house 1");
        TEXTS.faultAt(4, TOWN + ";person ann house ", "10");
        TEXTS.faultAt(4, ANN + ";dead joe late slip ", "40 for ann");
        TEXTS.faultAt(4, JOE + ";mirror joe ", "10");
        TEXTS.faultAt(4, JOE + ";unsure joe ", "40");
        TEXTS.faultAt(4, JOE + ";heard ann joe night ", "61");
    }

    private static void many() {
        String people = Texts.people(40, 0, 6);
        TEXTS.faultAt(5, people + ";", "person");
        TEXTS.faultAt(5, people + ";", "person pa house 0");
        String dead = people + Texts.dead(6, "swing", 39, "pf");
        TEXTS.faultAt(5, dead + ";", "dead");
        String unsure = dead + ";unsure da 1;unsure db 2;unsure dc 3;unsure dd 39";
        TEXTS.faultAt(5, unsure + ";", "unsure de 5");
        String heard = unsure;
        for (int k = 0; k < 8; k++) {
            heard += ";heard pa df night " + (53 + k);
        }
        TEXTS.faultAt(5, heard + ";", "heard pa de night 0");
        String full = heard + ";mirror da 39;mirror db 0;mirror dc 1;mirror dd 2;mirror de 3;mirror df 4";
        SeanceStreet x = Check.townOf(full);
        int[] sizes = {40, 0, 6, 6, 6, 4, 8};
        for (int what = 0; what < sizes.length; what++) {
            CHECK.due("size(" + what + ") of a full town", x.size(what), sizes[what]);
        }
        TEXTS.faultAt(3, full + ";mirror ", "da 1");
    }

    private static void lacks() {
        for (String word : new String[] {"person", "dead", "mirror", "unsure", "heard"}) {
            TEXTS.faultAt(6, "", word);
            TEXTS.faultAt(6, "  ", word + " a b c 99;" + TOWN);
        }
        TEXTS.faultAt(6, TOWN, "");
        TEXTS.faultAt(6, TOWN + "   ", "");
        TEXTS.faultAt(1, TOWN + ";", "");
    }

    private static void theFirstFaultCounts() {
        TEXTS.faultAt(4, "town houses ", "41 lips 101;person person");
        TEXTS.faultAt(2, JOE + ";mirror ", "ann 99");
        TEXTS.faultAt(3, JOE + ";mirror joe 3;mirror ", "joe 99");
        TEXTS.faultAt(3, JOE + ";unsure joe 3;unsure ", "joe x");
        TEXTS.faultAt(3, ANN + ";person ", "ann#");
        TEXTS.faultAt(1, ANN, "#;person ann");
        TEXTS.faultAt(4, ANN + ";person bob house ", "99 99");
    }

    private static void goodTexts() {
        TEXTS.good("town houses 2 lips 0;person a house 0", 1);
        TEXTS.good("town houses 40 lips 100;person abcdefgh house 39", 1);
        TEXTS.good("  town   houses 10 lips 5 ; person ann house 1  ", 1);
        TEXTS.good("town houses10lips5;person ann house1", 1);
        TEXTS.good("town houses 010 lips 005;person ann house 001", 1);
        TEXTS.good("town houses 9 lips 5;person late house 1;person house house 2;dead slip late slip 3 for house;"
            + "dead for early slip 0 for late;mirror for 8;heard late slip night 60;heard late for night 60", 2);
        TEXTS.good(JOE + ";person bob house 9;dead may swing slip 39 for bob;unsure joe 2;heard ann joe night 0", 2);
        SeanceStreet x = Check.townOf("town houses 010 lips 005;person ann house 007");
        CHECK.due("size(0)", x.size(0), 10);
        CHECK.due("size(1)", x.size(1), 5);
        CHECK.due("person(0, 0)", x.person(0, 0), 7);
    }
}
