import java.lang.reflect.InvocationTargetException;
import java.lang.reflect.Method;
import java.lang.reflect.Modifier;
import java.util.ArrayList;
import java.util.Arrays;
import java.util.Comparator;
import java.util.List;
import java.util.Random;

/** Runs of calls by fixed seeds, on texts made by them, each answer against the model's; all promises. */
public final class ModelTest {
    private static final int RUNS = 600;
    private static final int CALLS = 512;
    private static final String NAMES = "abcdefghijklmnopqrstuvwxyz";

    private final Random random;
    private final Check check;
    private final List<Method> calls = new ArrayList<>();
    private final List<Method> modelCalls = new ArrayList<>();
    private SeanceStreet x;
    private Model model;
    private int run;
    private int made;

    private ModelTest(Check check, Random random) throws NoSuchMethodException {
        this.check = check;
        this.random = random;
        for (Method m : SeanceStreet.class.getDeclaredMethods()) {
            if (Modifier.isPublic(m.getModifiers()) && !m.getName().equals("feed") && !m.getName().equals("town")) {
                calls.add(m);
            }
        }
        calls.sort(Comparator.comparing(Method::getName));
        for (Method m : calls) {
            modelCalls.add(Model.class.getDeclaredMethod(m.getName(), m.getParameterTypes()));
        }
    }

    public static void main(String[] args) throws ReflectiveOperationException {
        Check check = new Check("ModelTest");
        ModelTest test = new ModelTest(check, new Random(20261118));
        for (int run = 1; run <= RUNS; run++) {
            test.oneRun(run);
        }
        check.end();
    }

    private void oneRun(int number) throws ReflectiveOperationException {
        run = number;
        x = new SeanceStreet();
        model = new Model();
        made = 0;
        if (random.nextInt(8) != 0) {
            tell(text());
        }
        while (made < CALLS - 45) {
            int kind = random.nextInt(200);
            if (kind == 0) {
                tell(text());
            } else if (kind < 6) {
                tell(broken(text()));
            } else if (kind == 6) {
                feedOnly();
            } else {
                one(random.nextInt(calls.size()));
            }
        }
    }

    private void compare(String call, Object got, Object want) {
        made++;
        check.due("run " + run + ", call " + made + ": " + call, asLong(got), asLong(want));
    }

    private static long asLong(Object answer) {
        return answer instanceof Boolean b ? (b ? 1 : 0) : ((Number) answer).longValue();
    }

    private void one(int which) throws ReflectiveOperationException {
        Method m = calls.get(which);
        Class<?>[] types = m.getParameterTypes();
        Object[] args = new Object[types.length];
        for (int k = 0; k < args.length; k++) {
            args[k] = types[k] == boolean.class ? (Object) random.nextBoolean() : (Object) number(m.getName(), k);
        }
        String call = m.getName() + Arrays.toString(args);
        compare(call, answer(m, x, args), answer(modelCalls.get(which), model, args));
        compare("trouble() behind " + call, x.trouble(), model.trouble());
    }

    /** A throw of the one kind that is due counts as an answer; another ends the test. */
    private static Object answer(Method m, Object on, Object[] args) throws ReflectiveOperationException {
        try {
            return m.invoke(on, args);
        } catch (InvocationTargetException e) {
            if (e.getCause().getClass() == java.util.NoSuchElementException.class && m.getName().equals("led")) {
                return -99;
            }
            throw e;
        }
    }

    private int number(String call, int k) {
        int kind = random.nextInt(60);
        if (kind == 0) {
            return random.nextInt();
        }
        if (kind == 1) {
            return List.of(-1, 100, 99, 40, 39, 6, 7, 65536, 65537, Integer.MIN_VALUE, Integer.MAX_VALUE, -2)
                .get(random.nextInt(12));
        }
        boolean isSeed = call.equals("heardBy") && k == 1 || call.equals("rights") && k == 0;
        if (isSeed) {
            return random.nextInt(65537);
        }
        boolean isNight = List.of("comesOut", "hears", "off", "rightFrom", "mirrorFor", "slipFor", "seatAt", "moveFor",
            "bring", "ring", "ringAt", "odds", "most", "mean", "rights").contains(call) && k == 1
            || List.of("outIf", "aimFor", "aims", "likes", "heardBy").contains(call) && k == 2
            || List.of("right", "medium", "silent", "seat", "restless", "bringFrom").contains(call);
        if (isNight) {
            return random.nextInt(random.nextBoolean() ? 4 : 100);
        }
        boolean isHouse = List.of("house", "steps").contains(call) || call.equals("bring") && k == 0
            || List.of("outIf", "move", "hang").contains(call) && k == 1;
        if (isHouse) {
            return random.nextInt(Math.max(2, x.size(0)));
        }
        if (call.equals("teach") && k == 1) {
            return random.nextInt(40);
        }
        return random.nextInt(call.equals("size") || call.equals("chat") ? 11 : 6);
    }

    private void feedOnly() {
        int[] n = random.ints(5).toArray();
        compare("feed", x.feed(n[0], n[1], n[2], n[3], n[4]), model.feed(n[0], n[1], n[2], n[3], n[4]));
        int many = random.nextInt(60) - 5;
        compare("town(" + many + ")", x.town(many), model.town(many));
        told("feed and town(" + many + ")");
    }

    private void tell(String text) {
        byte[] bytes = Check.bytesOf(text);
        int size = x.size(10);
        Check.feed(x, bytes);
        made += feed(model, bytes);
        compare("size(10)", x.size(10), model.size(10));
        int many = Math.min(size + bytes.length, 800);
        compare("town(" + many + ")", x.town(many), model.town(many));
        told(text);
    }

    private static int feed(Model into, byte[] bytes) {
        int calls = 0;
        for (int from = 0; from < bytes.length; from += 20) {
            int[] n = Check.numbersOf(bytes, from);
            into.feed(n[0], n[1], n[2], n[3], n[4]);
            calls++;
        }
        return calls;
    }

    private void told(String text) {
        compare("trouble() behind " + text, x.trouble(), model.trouble());
        compare("fault() behind " + text, x.fault(), model.fault());
        compare("where() behind " + text, x.where(), model.where());
    }

    private String text() {
        int houses = 2 + random.nextInt(random.nextBoolean() ? 10 : 39);
        int people = 1 + random.nextInt(Math.min(6, houses));
        int dead = random.nextInt(7);
        List<Integer> free = new ArrayList<>();
        for (int h = 0; h < houses; h++) {
            free.add(h);
        }
        List<String> lines = new ArrayList<>();
        lines.add("town houses " + houses + " lips " + random.nextInt(101));
        for (int p = 0; p < people; p++) {
            lines.add("person " + NAMES.charAt(p) + " house " + free.remove(random.nextInt(free.size())));
        }
        for (int d = 0; d < dead; d++) {
            lines.add("dead " + NAMES.charAt(25 - d) + " " + List.of("late", "early", "drift", "swing")
                .get(random.nextInt(4)) + " slip " + random.nextInt(random.nextBoolean() ? 4 : 40) + " for "
                + NAMES.charAt(random.nextInt(people)));
        }
        if (dead > 0) {
            moreLines(lines, houses, people, dead);
        }
        return String.join(";", lines);
    }

    private void moreLines(List<String> lines, int houses, int people, int dead) {
        for (int d = 0; d < dead; d++) {
            if (random.nextInt(3) == 0) {
                lines.add("mirror " + NAMES.charAt(25 - d) + " " + random.nextInt(houses));
            }
        }
        List<Integer> unsure = new ArrayList<>();
        for (int k = 0; k < random.nextInt(5); k++) {
            int d = random.nextInt(dead);
            if (!unsure.contains(d)) {
                unsure.add(d);
                lines.add("unsure " + NAMES.charAt(25 - d) + " " + random.nextInt(40));
            }
        }
        heardLines(lines, people, dead);
    }

    /** Mostly what was heard with some of the slips being the other ones, so that something fits. */
    private void heardLines(List<String> lines, int people, int dead) {
        Model truth = new Model();
        feed(truth, Check.bytesOf(String.join(";", lines)));
        truth.town(truth.size(10));
        for (String line : lines) {
            if (line.startsWith("unsure") && random.nextBoolean()) {
                String[] words = line.split(" ");
                truth.teach(25 - NAMES.indexOf(words[1]), Integer.parseInt(words[2]));
            }
        }
        List<Integer> heard = new ArrayList<>();
        for (int k = 0; k < random.nextInt(9); k++) {
            int d = random.nextInt(dead);
            int night = random.nextInt(61);
            if (!heard.contains(d * 100 + night)) {
                heard.add(d * 100 + night);
                int who = random.nextInt(20) == 0 ? random.nextInt(people) : truth.hears(d, night);
                lines.add("heard " + NAMES.charAt(who) + " " + NAMES.charAt(25 - d) + " night " + night);
            }
        }
    }

    /** A text with something wrong, or merely odd, somewhere. */
    private String broken(String text) {
        String[] words = text.replace(";", " ; ").split(" +");
        int at = random.nextInt(words.length);
        String[] odd = {"town", "person", "dead", "x", "a", "z", ";", "", "0", "41", "100", "101", "0000", "40", "007",
            "abcdefgh", "abcdefghi", "night", "for", "slip", "swing", "#", "A", String.valueOf((char) 200), "1a", "a1",
            "mirror", "unsure", "heard", "late", "61", String.valueOf((char) 9), "  ", "person q house 1 ;"};
        switch (random.nextInt(5)) {
            case 0:
                return text.substring(0, random.nextInt(text.length() + 1));
            case 1:
                words[at] = odd[random.nextInt(odd.length)];
                return String.join(" ", words);
            case 2:
                words[at] = odd[random.nextInt(odd.length)] + " " + words[at];
                return String.join(" ", words);
            case 3:
                words[at] = words[random.nextInt(words.length)];
                return String.join(" ", words);
            default:
                String[] lines = text.split(";");
                String line = lines[random.nextInt(lines.length)];
                return text + ";" + line + (random.nextBoolean() ? "" : ";" + line);
        }
    }
}
