/** Promises 44 to 46: a bishop and a sweep, their rests. */
public final class ChatTest {
    private static final Check CHECK = new Check("ChatTest");

    public static void main(String[] args) {
        SeanceStreet x = Check.townOf(Towns.PAIR);
        for (int soot = 0; soot <= 9; soot++) {
            String with = " with soot " + soot;
            CHECK.due("both talk" + with, x.chat(soot, true, true, false), 0);
            CHECK.due("both talk, the sweep" + with, x.chat(soot, true, true, true), 0);
            CHECK.due("both listen" + with, x.chat(soot, false, false, false), 1);
            CHECK.due("both listen, the sweep" + with, x.chat(soot, false, false, true), 1);
            CHECK.due("the bishop talks" + with, x.chat(soot, true, false, false), 3);
            CHECK.due("the bishop talks, the sweep" + with, x.chat(soot, true, false, true), 2 - soot);
            CHECK.due("the sweep talks" + with, x.chat(soot, false, true, false), 2 - soot);
            CHECK.due("the sweep talks, he" + with, x.chat(soot, false, true, true), 3);
            // Below 2 one listens, at 2 it is all one to him, above both talk.
            CHECK.due("rests" + with, x.rests(soot), soot < 2 ? 2 : soot == 2 ? 3 : 1);
            CHECK.due("rest" + with, x.rest(soot), soot <= 2 ? 1 : 11);
            CHECK.due("trouble()" + with, x.trouble(), 0);
        }
        CHECK.due("chat(9, ..), below NONE", x.chat(9, false, true, false), -7);
        CHECK.due("trouble()", x.trouble(), 0);
        for (int soot : new int[] {-1, 10, Integer.MIN_VALUE, Integer.MAX_VALUE}) {
            CHECK.refused(x, "chat", x.chat(soot, true, false, true), -100, 2);
            CHECK.refused(x, "rests", x.rests(soot), -1, 2);
            CHECK.refused(x, "rest", x.rest(soot), -1, 2);
        }
        SeanceStreet none = new SeanceStreet();
        CHECK.refused(none, "chat, no town", none.chat(10, true, false, true), -100, 1);
        CHECK.refused(none, "rests, no town", none.rests(10), -1, 1);
        CHECK.refused(none, "rest, no town", none.rest(0), -1, 1);
        CHECK.end();
    }
}
