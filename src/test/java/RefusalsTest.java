import java.lang.reflect.Method;
import java.util.ArrayList;
import java.util.Arrays;
import java.util.List;
import java.util.Set;
import java.util.TreeSet;

/**
 * Every call that may be refused by 1 or 2, with each of its numbers at its bounds and beyond them, alone and with others:
 * which number TROUBLE is then, that the call answers what it should, and that nothing changes by it.
 */
public final class RefusalsTest {
    private static final Check CHECK = new Check("RefusalsTest");

    /** Four people, five dead, twelve houses. */
    private static final int PEOPLE = 4;
    private static final int DEAD = 5;
    private static final int HOUSES = 12;

    /**
     * The call, the promise's number, and its numbers: p person, d dead, h house, n night, w2 or w3 what, o soot, m many,
     * s seed, k how many nights, l slip, b a boolean; ! behind the call: its first two are to be unlike.
     */
    private static final String[] CALLS = {
        "person 6 p w2", "dead 7 d w3", "house 8 h", "comesOut 9 d n", "outIf 10 d h n", "hears 11 d n", "off 12 d n",
        "right 13 n", "medium 14 n", "silent 15 n", "rightFrom 16 d n", "nightsOf 17 p d", "round 18 d",
        "bestNight 19", "perfect 20", "together! 21 d d", "aimFor 22 d p n", "aims 23 d p n", "mirrorFor 24 d n",
        "mirrorBest 25 d", "slipFor 26 d n", "seat 27 n", "seatAt 28 p n", "likes! 29 p p n", "restless 30 n",
        "moveFor 31 p n", "bring 32 h n", "bringFrom 33 n", "steps 34 h h", "ring 35 p n", "fits 37", "could 39",
        "surely 40", "ask 41", "askLeaves 42", "judge 43", "chat 44 o b b b", "rests 45 o", "rest 46 o",
        "odds 47 d n b", "most 48 m n b", "mean 49 p n b", "heardBy 50 d s n", "rights 51 s k",
        "night 52", "move 53 p h", "hang 54 d h", "take 55 d", "teach 56 d l", "image 58",
    };

    /** Those have their bounds elsewhere in the tests. */
    private static final List<String> OTHERS = List.of("ringAt", "fitAt", "undo", "back", "town", "feed", "fault", "where",
        "led", "size", "trouble");

    private static final List<String> ACTS = List.of("night", "move", "hang", "take", "teach", "image");

    private final Method call;
    private final String[] kinds;
    private final boolean wantsUnlike;

    private RefusalsTest(String row) {
        String[] words = row.split(" ");
        wantsUnlike = words[0].endsWith("!");
        String name = words[0].replace("!", "");
        CHECK.by(words[1] + ": " + name + ", refused by 1 and 2");
        kinds = Arrays.copyOfRange(words, 2, words.length);
        call = Arrays.stream(SeanceStreet.class.getDeclaredMethods()).filter(m -> m.getName().equals(name)).findFirst()
            .orElseThrow();
    }

    public static void main(String[] args) throws ReflectiveOperationException {
        Set<String> named = new TreeSet<>(OTHERS);
        for (String row : CALLS) {
            RefusalsTest test = new RefusalsTest(row);
            named.add(test.call.getName());
            test.withTown();
            test.withoutTown();
        }
        Set<String> face = new TreeSet<>();
        for (Method m : SeanceStreet.class.getDeclaredMethods()) {
            if (java.lang.reflect.Modifier.isPublic(m.getModifiers())) {
                face.add(m.getName());
            }
        }
        CHECK.due("all calls are looked at", named.equals(face), true);
        CHECK.end();
    }

    private static int[] boundsOf(String kind) {
        switch (kind) {
            case "p":
                return new int[] {PEOPLE - 1, 1};
            case "d":
                return new int[] {DEAD - 1, 1};
            case "h":
                return new int[] {HOUSES - 1, 1};
            case "w2":
                return new int[] {2, 1};
            case "w3":
                return new int[] {3, 1};
            case "n":
            case "k":
                return new int[] {99, 2};
            case "o":
                return new int[] {9, 2};
            case "m":
                return new int[] {6, 2};
            case "s":
                return new int[] {65536, 2};
            case "l":
                return new int[] {39, 2};
            default:
                throw new IllegalArgumentException(kind);
        }
    }

    /** The first good ones, the last good ones, the next ones beyond both, and the farthest there are. */
    private static List<Object> valuesOf(String kind) {
        if (kind.equals("b")) {
            return List.of(false, true);
        }
        int last = boundsOf(kind)[0];
        return List.of(0, last, -1, last + 1, Integer.MIN_VALUE, Integer.MAX_VALUE);
    }

    private List<Object[]> allArguments() {
        List<Object[]> all = new ArrayList<>();
        all.add(new Object[0]);
        for (String kind : kinds) {
            List<Object[]> longer = new ArrayList<>();
            for (Object[] ahead : all) {
                for (Object value : valuesOf(kind)) {
                    Object[] more = Arrays.copyOf(ahead, ahead.length + 1);
                    more[ahead.length] = value;
                    longer.add(more);
                }
            }
            all = longer;
        }
        return all;
    }

    /** 1 ahead of 2, as the document lists them. */
    private int troubleDue(Object[] arguments) {
        int due = 0;
        for (int k = 0; k < kinds.length; k++) {
            if (!kinds[k].equals("b")) {
                int value = (Integer) arguments[k];
                int[] bounds = boundsOf(kinds[k]);
                if (value < 0 || value > bounds[0]) {
                    due = due == 0 ? bounds[1] : Math.min(due, bounds[1]);
                }
            }
        }
        return wantsUnlike && arguments[0].equals(arguments[1]) ? 1 : due;
    }

    private long refusal() {
        return call.getReturnType() == boolean.class ? 0 : call.getName().equals("chat") ? -100 : -1;
    }

    private long ask(SeanceStreet x, Object[] arguments) throws ReflectiveOperationException {
        Object answer = call.invoke(x, arguments);
        return answer instanceof Boolean b ? (b ? 1 : 0) : ((Number) answer).longValue();
    }

    private void withTown() throws ReflectiveOperationException {
        SeanceStreet x = town();
        boolean isAct = ACTS.contains(call.getName());
        for (Object[] arguments : allArguments()) {
            String told = call.getName() + Arrays.toString(arguments);
            int due = troubleDue(arguments);
            if (due != 0) {
                CHECK.refused(x, told, ask(x, arguments), refusal(), due);
            } else if (!isAct) {
                ask(x, arguments);
                CHECK.due("trouble() behind " + told, x.trouble(), 0);
            }
        }
        asTold(x);
        for (Object[] arguments : allArguments()) {
            if (isAct && troubleDue(arguments) == 0) {
                SeanceStreet fresh = town();
                boolean isDone = ask(fresh, arguments) != refusal();
                CHECK.due("trouble() behind " + call.getName() + Arrays.toString(arguments), fresh.trouble(),
                    isDone ? 0 : 5);
            }
        }
    }

    private void withoutTown() throws ReflectiveOperationException {
        SeanceStreet x = new SeanceStreet();
        for (Object[] arguments : allArguments()) {
            CHECK.refused(x, call.getName() + Arrays.toString(arguments) + ", no TOWN", ask(x, arguments), refusal(), 1);
        }
        for (int what = 0; what <= 10; what++) {
            CHECK.due("size(" + what + "), still no TOWN", x.size(what), 0);
        }
    }

    private static SeanceStreet town() {
        return Check.townOf(Towns.FOUR);
    }

    private static void asTold(SeanceStreet x) {
        int[] sizes = {HOUSES, 25, PEOPLE, DEAD, 2, 0, 0, 0, 0, 0, 0};
        for (int what = 0; what <= 10; what++) {
            CHECK.due("size(" + what + "), nothing changed", x.size(what), sizes[what]);
        }
        int[] houses = {0, 3, 7, 10};
        for (int p = 0; p < PEOPLE; p++) {
            CHECK.due("person(" + p + ", 0), nothing changed", x.person(p, 0), houses[p]);
        }
        int[] slips = {4, 2, 5, 3, 0};
        int[] mirrors = {-2, 6, -2, 1, -2};
        for (int d = 0; d < DEAD; d++) {
            CHECK.due("dead(" + d + ", 1), nothing changed", x.dead(d, 1), slips[d]);
            CHECK.due("dead(" + d + ", 3), nothing changed", x.dead(d, 3), mirrors[d]);
        }
    }
}
