import java.math.BigInteger;
import java.util.ArrayDeque;
import java.util.ArrayList;
import java.util.Arrays;
import java.util.HashMap;
import java.util.List;
import java.util.Map;
import java.util.NoSuchElementException;

/** The document again, slowly and by other ways than the class takes: every answer by trying all there is. */
final class Model {
    private static final List<String> LINES = List.of("town", "person", "dead", "mirror", "unsure", "heard");
    private static final List<String> LAWS = List.of("late", "early", "drift", "swing");

    /** What is told, and what acts change; copied whole for each act, image and trial. */
    static final class World {
        int houses;
        int lips;
        int night;
        List<Integer> home = new ArrayList<>();
        List<int[]> dead = new ArrayList<>(); // law, slip, for, mirror
        List<int[]> unsure = new ArrayList<>(); // dead, slip
        List<int[]> heard = new ArrayList<>(); // person, dead, night

        World copy() {
            World w = new World();
            w.houses = houses;
            w.lips = lips;
            w.night = night;
            w.home = new ArrayList<>(home);
            for (int[] row : dead) {
                w.dead.add(row.clone());
            }
            w.unsure = unsure;
            w.heard = heard;
            return w;
        }

        int outFrom(int d, int aim, int n) {
            int[] row = dead.get(d);
            int at = aim;
            int times = row[0] == 2 ? row[1] * n : row[1];
            int step = row[0] == 1 || row[0] == 3 && n % 2 == 1 ? houses - 1 : 1;
            for (int k = 0; k < times; k++) {
                at = (at + step) % houses;
            }
            if (row[3] >= 0) {
                int far = 0;
                int walk = row[3];
                while (walk != at) {
                    walk = (walk + 1) % houses;
                    far++;
                }
                at = row[3];
                for (int k = 0; k < far; k++) {
                    at = (at + houses - 1) % houses;
                }
            }
            return at;
        }

        int out(int d, int n) {
            return outFrom(d, home.get(dead.get(d)[2]), n);
        }

        int at(int house) {
            int h = house % houses;
            while (!home.contains(h)) {
                h = (h + 1) % houses;
            }
            return home.indexOf(h);
        }

        int hears(int d, int n) {
            return at(out(d, n));
        }

        boolean right(int d, int n) {
            return hears(d, n) == dead.get(d)[2];
        }

        int rights(int n) {
            int many = 0;
            for (int d = 0; d < dead.size(); d++) {
                many += right(d, n) ? 1 : 0;
            }
            return many;
        }

        int firstNotSo() {
            for (int k = 0; k < heard.size(); k++) {
                if (hears(heard.get(k)[1], heard.get(k)[2]) != heard.get(k)[0]) {
                    return k;
                }
            }
            return -2;
        }
    }

    private final List<Byte> tape = new ArrayList<>();
    private int trouble;
    private int fault;
    private int place = -1;
    private World now;
    private World first;
    private final List<World> past = new ArrayList<>();
    private final List<World> images = new ArrayList<>();

    // ---- refusals

    private int no(int number) {
        trouble = number;
        return -1;
    }

    private boolean bad(boolean none, boolean number) {
        trouble = none ? 1 : number ? 2 : 0;
        return trouble != 0;
    }

    private boolean noDead(int d) {
        return now == null || d < 0 || d >= now.dead.size();
    }

    private boolean noPerson(int p) {
        return now == null || p < 0 || p >= now.home.size();
    }

    private boolean noHouse(int h) {
        return now == null || h < 0 || h >= now.houses;
    }

    private static boolean out(int number, int least, int most) {
        return number < least || number > most;
    }

    // ---- the town

    int feed(int a, int b, int c, int d, int e) {
        if (tape.size() > 780) {
            return -1;
        }
        for (int number : new int[] {a, b, c, d, e}) {
            for (byte x : java.nio.ByteBuffer.allocate(4).putInt(number).array()) {
                tape.add(x);
            }
        }
        return tape.size();
    }

    int town(int n) {
        if (bad(false, n < 0 || n > tape.size())) {
            return -1;
        }
        StringBuilder text = new StringBuilder();
        for (byte b : tape.subList(0, n)) {
            text.append((char) (b & 255));
        }
        tape.clear();
        fault = 0;
        place = -1;
        World read = new ModelReader(this).read(text.toString());
        if (fault != 0) {
            return no(4);
        }
        first = read;
        now = read.copy();
        past.clear();
        images.clear();
        return now.home.size();
    }

    int fault() {
        return fault;
    }

    int where() {
        return trouble == 4 ? place : -1;
    }

    /** The text in whole tokens first, then line by line. */
    private static final class ModelReader {
        private final Model model;
        private final List<String> tokens = new ArrayList<>();
        private final List<Integer> places = new ArrayList<>();
        private final Map<String, Integer> people = new HashMap<>();
        private final Map<String, Integer> dead = new HashMap<>();
        private int i;

        ModelReader(Model model) {
            this.model = model;
        }

        private static final class Stop extends RuntimeException {
            private static final long serialVersionUID = 1;
        }

        private void stop(int number, int at) {
            model.fault = number;
            model.place = at;
            throw new Stop();
        }

        World read(String text) {
            java.util.regex.Matcher m = java.util.regex.Pattern.compile("[a-z]+|[0-9]+|;|[^ ]",
                java.util.regex.Pattern.DOTALL).matcher(text);
            while (m.find()) {
                tokens.add(m.group());
                places.add(m.start());
            }
            tokens.add("");
            places.add(text.length());
            World w = new World();
            try {
                line(w);
                while (!tokens.get(i).isEmpty()) {
                    word(";");
                    line(w);
                }
                if (w.home.isEmpty()) {
                    stop(6, text.length());
                }
            } catch (Stop s) {
                return null;
            }
            return w;
        }

        private void word(String... any) {
            if (!List.of(any).contains(tokens.get(i))) {
                stop(1, places.get(i));
            }
            i++;
        }

        private int whole(int least, int most) {
            if (!tokens.get(i).matches("[0-9]{1,3}")) {
                stop(1, places.get(i));
            }
            int value = Integer.parseInt(tokens.get(i));
            if (value < least || value > most) {
                stop(4, places.get(i));
            }
            i++;
            return value;
        }

        private String name() {
            if (!tokens.get(i).matches("[a-z]{1,8}") || LINES.contains(tokens.get(i))) {
                stop(1, places.get(i));
            }
            return tokens.get(i++);
        }

        private int told(Map<String, Integer> sort) {
            String name = name();
            if (!sort.containsKey(name)) {
                stop(2, places.get(i - 1));
            }
            return sort.get(name);
        }

        private String fresh() {
            String name = name();
            if (people.containsKey(name) || dead.containsKey(name)) {
                stop(3, places.get(i - 1));
            }
            return name;
        }

        private void many(boolean full, int at) {
            if (full) {
                stop(5, at);
            }
        }

        private void line(World w) {
            String sort = tokens.get(i);
            int at = places.get(i);
            word(LINES.toArray(new String[0]));
            if (sort.equals("town")) {
                if (w.houses != 0) {
                    stop(3, at);
                }
                word("houses");
                int houses = whole(2, 40);
                word("lips");
                w.lips = whole(0, 100);
                w.houses = houses;
                return;
            }
            if (w.houses == 0) {
                stop(6, at);
            }
            switch (sort) {
                case "person" -> {
                    many(w.home.size() == 6, at);
                    String name = fresh();
                    word("house");
                    int h = whole(0, w.houses - 1);
                    if (w.home.contains(h)) {
                        stop(3, places.get(i - 1));
                    }
                    people.put(name, w.home.size());
                    w.home.add(h);
                }
                case "dead" -> {
                    many(w.dead.size() == 6, at);
                    String name = fresh();
                    int law = LAWS.indexOf(tokens.get(i));
                    word(LAWS.toArray(new String[0]));
                    word("slip");
                    int slip = whole(0, 39);
                    word("for");
                    int whom = told(people);
                    dead.put(name, w.dead.size());
                    w.dead.add(new int[] {law, slip, whom, -2});
                }
                case "mirror" -> {
                    int d = told(dead);
                    if (w.dead.get(d)[3] != -2) {
                        stop(3, places.get(i - 1));
                    }
                    w.dead.get(d)[3] = whole(0, w.houses - 1);
                }
                case "unsure" -> {
                    many(w.unsure.size() == 4, at);
                    int d = told(dead);
                    if (w.unsure.stream().anyMatch(u -> u[0] == d)) {
                        stop(3, places.get(i - 1));
                    }
                    w.unsure.add(new int[] {d, whole(0, 39)});
                }
                default -> {
                    many(w.heard.size() == 8, at);
                    int p = told(people);
                    int d = told(dead);
                    word("night");
                    int n = whole(0, 60);
                    if (w.heard.stream().anyMatch(u -> u[1] == d && u[2] == n)) {
                        stop(3, places.get(i - 1));
                    }
                    w.heard.add(new int[] {p, d, n});
                }
            }
        }
    }

    // ---- now

    private int bitsOfDead(java.util.function.IntPredicate which) {
        int bits = 0;
        for (int d = 0; d < now.dead.size(); d++) {
            bits += which.test(d) ? 1 << d : 0;
        }
        return bits;
    }

    int person(int p, int what) {
        if (bad(noPerson(p) || out(what, 0, 2), false)) {
            return -1;
        }
        return what == 0 ? now.home.get(p) : what == 1 ? bitsOfDead(d -> now.dead.get(d)[2] == p)
            : bitsOfDead(d -> now.hears(d, now.night) == p);
    }

    int dead(int d, int what) {
        return bad(noDead(d) || out(what, 0, 3), false) ? -1 : now.dead.get(d)[what];
    }

    int house(int h) {
        return bad(noHouse(h), false) ? -1 : now.home.contains(h) ? now.home.indexOf(h) : -2;
    }

    int comesOut(int d, int n) {
        return bad(noDead(d), out(n, 0, 99)) ? -1 : now.out(d, n);
    }

    int outIf(int d, int aim, int n) {
        return bad(noDead(d) || noHouse(aim), out(n, 0, 99)) ? -1 : now.outFrom(d, aim, n);
    }

    int hears(int d, int n) {
        return bad(noDead(d), out(n, 0, 99)) ? -1 : now.hears(d, n);
    }

    int off(int d, int n) {
        if (bad(noDead(d), out(n, 0, 99))) {
            return -1;
        }
        int h = now.out(d, n);
        int far = 0;
        while (!now.home.contains(h)) {
            h = (h + 1) % now.houses;
            far++;
        }
        return far;
    }

    int right(int n) {
        return bad(now == null, out(n, 0, 99)) ? -1 : bitsOfDead(d -> now.right(d, n));
    }

    private int[] heardCounts(int n) {
        int[] counts = new int[now.home.size()];
        for (int d = 0; d < now.dead.size(); d++) {
            counts[now.hears(d, n)]++;
        }
        return counts;
    }

    int medium(int n) {
        if (bad(now == null, out(n, 0, 99))) {
            return -1;
        }
        int[] counts = heardCounts(n);
        int most = Arrays.stream(counts).max().getAsInt();
        int p = 0;
        while (counts[p] != most) {
            p++;
        }
        return p;
    }

    int silent(int n) {
        if (bad(now == null, out(n, 0, 99))) {
            return -1;
        }
        int bits = 0;
        int[] counts = heardCounts(n);
        for (int p = 0; p < counts.length; p++) {
            bits += counts[p] == 0 ? 1 << p : 0;
        }
        return bits;
    }

    // ---- night by night

    int rightFrom(int d, int n) {
        return bad(noDead(d), out(n, 0, 99)) ? -1
            : java.util.stream.IntStream.range(n, 100).filter(k -> now.right(d, k)).findFirst().orElse(-2);
    }

    int nightsOf(int p, int d) {
        return bad(noPerson(p) || noDead(d), false) ? -1
            : (int) java.util.stream.IntStream.range(0, 100).filter(k -> now.hears(d, k) == p).count();
    }

    int round(int d) {
        if (bad(noDead(d), false)) {
            return -1;
        }
        int[] outs = new int[200];
        for (int n = 0; n < 200; n++) {
            outs[n] = now.out(d, n);
        }
        for (int round = 1;; round++) {
            boolean all = true;
            for (int n = 0; n + round < 200; n++) {
                all &= outs[n] == outs[n + round];
            }
            if (all) {
                return round;
            }
        }
    }

    int bestNight() {
        if (bad(now == null, false)) {
            return -1;
        }
        int most = java.util.stream.IntStream.range(0, 100).map(now::rights).max().getAsInt();
        return java.util.stream.IntStream.range(0, 100).filter(n -> now.rights(n) == most).findFirst().getAsInt();
    }

    int perfect() {
        return bad(now == null, false) ? -1
            : (int) java.util.stream.IntStream.range(0, 100).filter(n -> now.rights(n) == now.dead.size()).count();
    }

    int together(int d, int other) {
        return bad(noDead(d) || noDead(other) || d == other, false) ? -1
            : java.util.stream.IntStream.range(0, 100).filter(n -> now.hears(d, n) == now.hears(other, n))
                .findFirst().orElse(-2);
    }

    // ---- aims, mirrors

    private List<Integer> aimsOf(int d, int p, int n) {
        List<Integer> all = new ArrayList<>();
        for (int aim = 0; aim < now.houses; aim++) {
            if (now.at(now.outFrom(d, aim, n)) == p) {
                all.add(aim);
            }
        }
        return all;
    }

    int aimFor(int d, int p, int n) {
        return bad(noDead(d) || noPerson(p), out(n, 0, 99)) ? -1 : aimsOf(d, p, n).get(0);
    }

    int aims(int d, int p, int n) {
        return bad(noDead(d) || noPerson(p), out(n, 0, 99)) ? -1 : aimsOf(d, p, n).size();
    }

    private World with(int d, int what, int value) {
        World w = now.copy();
        w.dead.get(d)[what] = value;
        return w;
    }

    int mirrorFor(int d, int n) {
        if (bad(noDead(d), out(n, 0, 99))) {
            return -1;
        }
        for (int h = 0; h < now.houses; h++) {
            if (with(d, 3, h).right(d, n)) {
                return h;
            }
        }
        return -2;
    }

    int mirrorBest(int d) {
        if (bad(noDead(d), false)) {
            return -1;
        }
        int[] nights = new int[now.houses];
        for (int h = 0; h < now.houses; h++) {
            World w = with(d, 3, h);
            for (int n = 0; n < 100; n++) {
                nights[h] += w.right(d, n) ? 1 : 0;
            }
        }
        int most = Arrays.stream(nights).max().getAsInt();
        return java.util.stream.IntStream.range(0, now.houses).filter(h -> nights[h] == most).findFirst().getAsInt();
    }

    int slipFor(int d, int n) {
        if (bad(noDead(d), out(n, 0, 99))) {
            return -1;
        }
        for (int slip = 0; slip < 40; slip++) {
            if (with(d, 1, slip).right(d, n)) {
                return slip;
            }
        }
        return -2;
    }

    // ---- houses changed

    private void allSeatings(List<Integer> row, List<Integer> left, List<List<Integer>> all) {
        if (left.isEmpty()) {
            all.add(new ArrayList<>(row));
        }
        for (int k = 0; k < left.size(); k++) {
            List<Integer> rest = new ArrayList<>(left);
            row.add(rest.remove(k));
            allSeatings(row, rest, all);
            row.remove(row.size() - 1);
        }
    }

    private World seating(int n) {
        List<Integer> sorted = new ArrayList<>(now.home);
        sorted.sort(null);
        List<List<Integer>> all = new ArrayList<>();
        allSeatings(new ArrayList<>(), sorted, all);
        World best = null;
        for (List<Integer> row : all) {
            World w = now.copy();
            w.home = row;
            if (best == null || w.rights(n) > best.rights(n)) {
                best = w;
            }
        }
        return best;
    }

    int seat(int n) {
        return bad(now == null, out(n, 0, 99)) ? -1 : seating(n).rights(n);
    }

    int seatAt(int p, int n) {
        return bad(noPerson(p), out(n, 0, 99)) ? -1 : seating(n).home.get(p);
    }

    private static int rightsFor(World w, int p, int other, int n) {
        int many = 0;
        for (int d = 0; d < w.dead.size(); d++) {
            int whom = w.dead.get(d)[2];
            many += (whom == p || whom == other) && w.right(d, n) ? 1 : 0;
        }
        return many;
    }

    private boolean like(int p, int other, int n) {
        World w = now.copy();
        w.home.set(p, now.home.get(other));
        w.home.set(other, now.home.get(p));
        return rightsFor(w, p, other, n) > rightsFor(now, p, other, n);
    }

    int likes(int p, int other, int n) {
        return bad(noPerson(p) || noPerson(other) || p == other, out(n, 0, 99)) ? -1 : like(p, other, n) ? 1 : 0;
    }

    int restless(int n) {
        if (bad(now == null, out(n, 0, 99))) {
            return -1;
        }
        int pairs = 0;
        for (int p = 0; p < now.home.size(); p++) {
            for (int q = 0; q < p; q++) {
                pairs += like(p, q, n) ? 1 : 0;
            }
        }
        return pairs;
    }

    int moveFor(int p, int n) {
        if (bad(noPerson(p), out(n, 0, 99))) {
            return -1;
        }
        int best = -2;
        int most = now.rights(n);
        for (int h = 0; h < now.houses; h++) {
            if (!now.home.contains(h)) {
                World w = now.copy();
                w.home.set(p, h);
                if (w.rights(n) > most) {
                    most = w.rights(n);
                    best = h;
                }
            }
        }
        return best;
    }

    // ---- brought where they are for

    /** House by house over all that may be fetched and brought, breadth first. */
    private int walk(int from, int n) {
        int size = now.dead.size();
        int want = 0;
        for (int d = 0; d < size; d++) {
            want |= now.right(d, n) ? 0 : 1 << d;
        }
        if (want == 0) {
            return 0;
        }
        int[] from64 = new int[now.houses * 4096];
        Arrays.fill(from64, -1);
        ArrayDeque<Integer> queue = new ArrayDeque<>();
        int start = visited(from, 0, 0, want, n);
        from64[start] = 0;
        queue.add(start);
        while (!queue.isEmpty()) {
            int s = queue.poll();
            int h = s / 4096;
            int brought = s % 64;
            if (brought == want) {
                return from64[s];
            }
            for (int step : new int[] {1, now.houses - 1}) {
                int t = visited((h + step) % now.houses, s / 64 % 64, brought, want, n);
                if (from64[t] < 0) {
                    from64[t] = from64[s] + 1;
                    queue.add(t);
                }
            }
        }
        throw new IllegalStateException("never brought");
    }

    private int visited(int h, int fetched, int brought, int want, int n) {
        int f = fetched;
        int b = brought;
        for (int d = 0; d < now.dead.size(); d++) {
            if ((want & 1 << d) != 0) {
                if ((fetched & 1 << d) != 0 && now.home.get(now.dead.get(d)[2]) == h) {
                    b |= 1 << d;
                }
                if (now.home.get(now.hears(d, n)) == h) {
                    f |= 1 << d;
                }
            }
        }
        return h * 4096 + f * 64 + b;
    }

    int bring(int from, int n) {
        return bad(noHouse(from), out(n, 0, 99)) ? -1 : walk(from, n);
    }

    int bringFrom(int n) {
        if (bad(now == null, out(n, 0, 99))) {
            return -1;
        }
        int best = 0;
        int fewest = walk(0, n);
        for (int h = 1; h < now.houses; h++) {
            int many = walk(h, n);
            if (many < fewest) {
                fewest = many;
                best = h;
            }
        }
        return best;
    }

    int steps(int h, int to) {
        if (bad(noHouse(h) || noHouse(to), false)) {
            return -1;
        }
        int straight = Math.abs(h - to);
        return Math.min(straight, now.houses - straight);
    }

    private List<Integer> ringOf(int p, int n) {
        List<Integer> ring = new ArrayList<>();
        int at = p;
        do {
            if (ring.contains(at)) {
                return null;
            }
            ring.add(at);
            int whom = at;
            int d = java.util.stream.IntStream.range(0, now.dead.size())
                .filter(k -> now.dead.get(k)[2] == whom).findFirst().orElse(-1);
            if (d < 0) {
                return null;
            }
            at = now.hears(d, n);
        } while (at != p);
        return ring;
    }

    int ring(int p, int n) {
        if (bad(noPerson(p), out(n, 0, 99))) {
            return -1;
        }
        List<Integer> ring = ringOf(p, n);
        return ring == null ? -2 : ring.size();
    }

    int ringAt(int p, int n, int i) {
        if (bad(noPerson(p), out(n, 0, 99))) {
            return -1;
        }
        List<Integer> ring = ringOf(p, n);
        return ring == null || out(i, 0, ring.size() - 1) ? no(1) : ring.get(i);
    }

    // ---- unsure slips

    private List<Integer> allFits() {
        List<Integer> sets = new ArrayList<>();
        for (int set = 0; set < 1 << first.unsure.size(); set++) {
            World w = first.copy();
            for (int k = 0; k < first.unsure.size(); k++) {
                if ((set >> k & 1) == 1) {
                    w.dead.get(first.unsure.get(k)[0])[1] = first.unsure.get(k)[1];
                }
            }
            if (w.firstNotSo() == -2) {
                sets.add(set);
            }
        }
        return sets;
    }

    int fits() {
        return bad(now == null, false) ? -1 : allFits().size();
    }

    int fitAt(int i) {
        return bad(now == null || out(i, 0, allFits().size() - 1), false) ? -1 : allFits().get(i);
    }

    int could() {
        return bad(now == null, false) ? -1 : allFits().stream().reduce(0, (a, b) -> a | b);
    }

    int surely() {
        return bad(now == null, false) ? -1 : allFits().stream().reduce((a, b) -> a & b).orElse(0);
    }

    private int leaves(int k) {
        int with = (int) allFits().stream().filter(set -> (set >> k & 1) == 1).count();
        return Math.max(with, allFits().size() - with);
    }

    int ask() {
        if (bad(now == null, false)) {
            return -1;
        }
        if (allFits().isEmpty() || first.unsure.isEmpty()) {
            return -2;
        }
        int best = 0;
        for (int k = 1; k < first.unsure.size(); k++) {
            best = leaves(k) < leaves(best) ? k : best;
        }
        return best;
    }

    int askLeaves() {
        int whom = ask();
        return whom < 0 ? whom : leaves(whom);
    }

    int judge() {
        return bad(now == null, false) ? -1 : first.firstNotSo();
    }

    // ---- bishop and sweep

    private static int[] both(int soot, boolean bishop, boolean sweep) {
        if (bishop && sweep) {
            return new int[] {0, 0};
        }
        if (!bishop && !sweep) {
            return new int[] {1, 1};
        }
        return bishop ? new int[] {3, 2 - soot} : new int[] {2 - soot, 3};
    }

    int chat(int soot, boolean bishop, boolean sweep, boolean ofSweep) {
        return bad(now == null, out(soot, 0, 9)) ? -100 : both(soot, bishop, sweep)[ofSweep ? 1 : 0];
    }

    private static List<Integer> restsOf(int soot) {
        List<Integer> all = new ArrayList<>();
        for (boolean b : new boolean[] {false, true}) {
            for (boolean s : new boolean[] {false, true}) {
                boolean moves = both(soot, !b, s)[0] > both(soot, b, s)[0]
                    || both(soot, b, !s)[1] > both(soot, b, s)[1];
                if (!moves) {
                    all.add((b ? 10 : 0) + (s ? 1 : 0));
                }
            }
        }
        return all;
    }

    int rests(int soot) {
        return bad(now == null, out(soot, 0, 9)) ? -1 : restsOf(soot).size();
    }

    int rest(int soot) {
        return bad(now == null, out(soot, 0, 9)) ? -1 : restsOf(soot).isEmpty() ? -2 : restsOf(soot).get(0);
    }

    // ---- lips

    private static long part(BigInteger upper, BigInteger lower, boolean wantsLower) {
        BigInteger g = upper.gcd(lower);
        return (wantsLower ? lower : upper).divide(g).longValueExact();
    }

    /** Every way the lips may go, each with how many of a hundred to the dead-th it stands for. */
    private BigInteger weigh(int n, java.util.function.ToIntFunction<int[]> worth) {
        BigInteger sum = BigInteger.ZERO;
        int size = now.dead.size();
        for (int way = 0; way < 1 << size; way++) {
            BigInteger weight = BigInteger.ONE;
            int[] heard = new int[size];
            for (int d = 0; d < size; d++) {
                boolean further = (way >> d & 1) == 1;
                weight = weight.multiply(BigInteger.valueOf(further ? now.lips : 100 - now.lips));
                heard[d] = now.at(now.out(d, n) + (further ? 1 : 0));
            }
            sum = sum.add(weight.multiply(BigInteger.valueOf(worth.applyAsInt(heard))));
        }
        return sum;
    }

    private BigInteger whole() {
        return BigInteger.valueOf(100).pow(now.dead.size());
    }

    long odds(int d, int n, boolean lower) {
        return bad(noDead(d), out(n, 0, 99)) ? -1
            : part(weigh(n, heard -> heard[d] == now.dead.get(d)[2] ? 1 : 0), whole(), lower);
    }

    long most(int many, int n, boolean lower) {
        if (bad(now == null, out(many, 0, 6) || out(n, 0, 99))) {
            return -1;
        }
        return part(weigh(n, heard -> {
            int right = 0;
            for (int d = 0; d < heard.length; d++) {
                right += heard[d] == now.dead.get(d)[2] ? 1 : 0;
            }
            return right >= many ? 1 : 0;
        }), whole(), lower);
    }

    long mean(int p, int n, boolean lower) {
        return bad(noPerson(p), out(n, 0, 99)) ? -1
            : part(weigh(n, heard -> (int) Arrays.stream(heard).filter(q -> q == p).count()), whole(), lower);
    }

    private int[][] drawn(int seed, int nights) {
        long s = seed;
        int[][] heard = new int[nights][now.dead.size()];
        for (int n = 0; n < nights; n++) {
            for (int d = 0; d < now.dead.size(); d++) {
                s = (75 * s + 74) % 65537;
                heard[n][d] = now.at(now.out(d, n) + (s % 100 < now.lips ? 1 : 0));
            }
        }
        return heard;
    }

    int heardBy(int d, int seed, int n) {
        return bad(noDead(d), out(seed, 0, 65536) || out(n, 0, 99)) ? -1 : drawn(seed, n + 1)[n][d];
    }

    int rights(int seed, int n) {
        if (bad(now == null, out(seed, 0, 65536) || out(n, 0, 99))) {
            return -1;
        }
        int many = 0;
        for (int[] night : drawn(seed, n)) {
            for (int d = 0; d < night.length; d++) {
                many += night[d] == now.dead.get(d)[2] ? 1 : 0;
            }
        }
        return many;
    }

    // ---- acts

    private void keep() {
        past.add(now.copy());
        if (past.size() > 16) {
            past.remove(0);
        }
    }

    int night() {
        if (bad(now == null, false)) {
            return -1;
        }
        if (now.night == 99) {
            return no(3);
        }
        keep();
        now.night++;
        return bitsOfDead(d -> now.right(d, now.night));
    }

    int move(int p, int h) {
        if (bad(noPerson(p) || noHouse(h), false)) {
            return -1;
        }
        if (now.home.contains(h)) {
            return no(5);
        }
        keep();
        return now.home.set(p, h);
    }

    private boolean put(int d, int what, int value) {
        if (now.dead.get(d)[what] == value) {
            trouble = 5;
            return false;
        }
        keep();
        now.dead.get(d)[what] = value;
        return true;
    }

    boolean hang(int d, int h) {
        return !bad(noDead(d) || noHouse(h), false) && put(d, 3, h);
    }

    boolean take(int d) {
        return !bad(noDead(d), false) && put(d, 3, -2);
    }

    boolean teach(int d, int slip) {
        return !bad(noDead(d), out(slip, 0, 39)) && put(d, 1, slip);
    }

    boolean undo() {
        trouble = past.isEmpty() ? 6 : 0;
        if (trouble == 0) {
            now = past.remove(past.size() - 1);
        }
        return trouble == 0;
    }

    int image() {
        if (bad(now == null, false)) {
            return -1;
        }
        if (images.size() == 3) {
            return no(3);
        }
        images.add(now.copy());
        return images.size() - 1;
    }

    boolean back(int image) {
        if (bad(out(image, 0, images.size() - 1), false)) {
            return false;
        }
        now = images.get(image).copy();
        past.clear();
        return true;
    }

    // ---- what is told

    int led(int i) {
        List<Integer> all = new ArrayList<>();
        for (int d = 0; now != null && d < now.dead.size(); d++) {
            if (!now.right(d, now.night)) {
                all.add(d);
            }
        }
        if (out(i, 0, all.size() - 1)) {
            throw new NoSuchElementException();
        }
        return all.get(i);
    }

    int size(int what) {
        if (out(what, 0, 10)) {
            return -1;
        }
        if (what == 10) {
            return tape.size();
        }
        if (now == null) {
            return 0;
        }
        int mirrors = (int) now.dead.stream().filter(row -> row[3] >= 0).count();
        return new int[] {now.houses, now.lips, now.home.size(), now.dead.size(), mirrors, now.unsure.size(),
            now.heard.size(), now.night, past.size(), images.size()}[what];
    }

    int trouble() {
        return trouble;
    }
}
