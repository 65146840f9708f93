import java.nio.charset.StandardCharsets;

/** What the project's tests share: telling texts, and counting the answers that are not as due. */
final class Check {
    private final String name;
    private String sentence = "";
    private int sentences;
    private int wrong;
    private int calls;

    Check(String name) {
        this.name = name;
    }

    /** What is due from here on is due by this sentence of the document. */
    void by(String words) {
        sentence = " (by: " + words + ")";
        sentences++;
    }

    void due(String call, long got, long want) {
        calls++;
        if (got != want) {
            wrong++;
            if (wrong <= 40) {
                System.out.println(name + ": " + call + " answered " + got + ", due is " + want + sentence);
            }
        }
    }

    void due(String call, boolean got, boolean want) {
        due(call, got ? 1 : 0, want ? 1 : 0);
    }

    /** Every call of a row must answer the refusal and leave the trouble. */
    void refused(SeanceStreet x, String call, long got, long want, int trouble) {
        due(call, got, want);
        due("trouble() behind " + call, x.trouble(), trouble);
    }

    void refused(SeanceStreet x, String call, boolean got, int trouble) {
        refused(x, call, got ? 1 : 0, 0, trouble);
    }

    void end() {
        String by = sentences == 0 ? "" : " by " + sentences + " sentences";
        System.out.println(name + ": " + calls + " answers" + by + ", " + wrong + " not as due");
        if (wrong != 0) {
            System.exit(1);
        }
    }

    static byte[] bytesOf(String text) {
        return text.getBytes(StandardCharsets.ISO_8859_1);
    }

    /** Feeds the bytes, filled up with blanks to whole twenties. */
    static void feed(SeanceStreet x, byte[] bytes) {
        for (int from = 0; from < bytes.length; from += 20) {
            int[] numbers = numbersOf(bytes, from);
            x.feed(numbers[0], numbers[1], numbers[2], numbers[3], numbers[4]);
        }
    }

    static int[] numbersOf(byte[] bytes, int from) {
        int[] numbers = new int[5];
        for (int k = 0; k < 20; k++) {
            int b = from + k < bytes.length ? bytes[from + k] & 255 : 32;
            numbers[k / 4] = numbers[k / 4] << 8 | b;
        }
        return numbers;
    }

    static int tell(SeanceStreet x, String text) {
        byte[] bytes = bytesOf(text);
        feed(x, bytes);
        return x.town(bytes.length);
    }

    static SeanceStreet townOf(String text) {
        SeanceStreet x = new SeanceStreet();
        if (tell(x, text) < 0) {
            System.out.println("no town (fault " + x.fault() + " at " + x.where() + "): " + text);
            System.exit(1);
        }
        return x;
    }

    /** The dead, or -9 if the call throws what it should. */
    static int led(SeanceStreet x, int i) {
        try {
            return x.led(i);
        } catch (java.util.NoSuchElementException e) {
            return -9;
        }
    }
}
