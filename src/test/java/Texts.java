/** Texts of towns, and what a test asks of a text: that it is a town, or at which place it has which FAULT. */
final class Texts {
    static final String TOWN = "town houses 10 lips 5";
    static final String ANN = TOWN + ";person ann house 1";
    static final String JOE = ANN + ";dead joe late slip 2 for ann";

    private final Check check;

    Texts(Check check) {
        this.check = check;
    }

    void fault(String text, int number, int place) {
        SeanceStreet x = new SeanceStreet();
        check.refused(x, "town: " + text, Check.tell(x, text), -1, 4);
        check.due("fault(): " + text, x.fault(), number);
        check.due("where(): " + text, x.where(), place);
        check.due("size(2): " + text, x.size(2), 0);
    }

    /** A fault at the place where the rest begins. */
    void faultAt(int number, String ahead, String rest) {
        fault(ahead + rest, number, ahead.length());
    }

    void good(String text, int people) {
        SeanceStreet x = new SeanceStreet();
        check.due("town: " + text, Check.tell(x, text), people);
        check.due("trouble(): " + text, x.trouble(), 0);
        check.due("fault(): " + text, x.fault(), 0);
        check.due("where(): " + text, x.where(), -1);
        check.due("size(2): " + text, x.size(2), people);
    }

    /** People pa, pb .. in houses 0, 1 ... */
    static String people(int houses, int lips, int many) {
        StringBuilder text = new StringBuilder("town houses " + houses + " lips " + lips);
        for (int p = 0; p < many; p++) {
            text.append(";person p").append((char) ('a' + p)).append(" house ").append(p);
        }
        return text.toString();
    }

    /** Dead da, db .., each alike. */
    static String dead(int many, String law, int slip, String forWhom) {
        StringBuilder text = new StringBuilder();
        for (int d = 0; d < many; d++) {
            text.append(";dead d").append((char) ('a' + d)).append(' ').append(law).append(" slip ").append(slip)
                .append(" for ").append(forWhom);
        }
        return text.toString();
    }
}
