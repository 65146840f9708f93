import java.util.NoSuchElementException;

/** A ring of houses whose people hear the dead of others; the document's promises say what each call answers. */
public final class SeanceStreet {
    public static final int NONE = -1;

    /** The answer of a call that isn't refused but finds nothing; NONE is kept for refusals. */
    private static final int NOTHING = -2;
    private static final int CHAT_REFUSED = -100;

    private static final int MOST_BYTES = 800;
    private static final int MOST_HOUSES = 40;
    private static final int LEAST_HOUSES = 2;
    private static final int MOST_LIPS = 100;
    private static final int MOST_PEOPLE = 6;
    private static final int MOST_DEAD = 6;
    private static final int MOST_UNSURE = 4;
    private static final int MOST_HEARD = 8;
    private static final int LAST_SLIP = 39;
    private static final int LAST_HEARD_NIGHT = 60;
    private static final int LAST_NIGHT = 99;
    private static final int LAST_SOOT = 9;
    private static final int LAST_SEED = 65536;
    private static final int MOST_IMAGES = 3;

    /** More than any steps or sets that can be. */
    private static final int FAR = 1000000;

    private static final int NONE_SUCH = 1;
    private static final int A_NUMBER = 2;
    private static final int NO_ROOM = 3;
    private static final int A_FAULT = 4;
    private static final int NOT_SO = 5;
    private static final int NONE_LEFT = 6;

    private static final int LATE = 0;
    private static final int EARLY = 1;
    private static final int DRIFT = 2;
    private static final int SWING = 3;

    private final byte[] tape;
    private int tapeLength;
    private int trouble;
    private int fault;
    private int faultPlace;
    private final Reader reader;
    private final Town town;
    private final Voices now;
    private final Voices trial;
    private final Seating seating;
    private final Errand errand;
    private final Fits suppositions;
    private final Lips lips;
    private final Log log;
    private final State[] images;
    private int imageCount;

    public SeanceStreet() {
        tape = new byte[MOST_BYTES];
        faultPlace = NONE;
        reader = new Reader();
        town = new Town();
        now = new Voices(town);
        trial = new Voices(town);
        seating = new Seating();
        errand = new Errand();
        suppositions = new Fits();
        lips = new Lips();
        log = new Log();
        images = new State[MOST_IMAGES];
        for (int i = 0; i < MOST_IMAGES; i++) {
            images[i] = new State();
        }
    }

    // ---- the town

    public int feed(int a, int b, int c, int d, int e) {
        if (tapeLength + 20 > MOST_BYTES) {
            return NONE;
        }
        putNumber(a);
        putNumber(b);
        putNumber(c);
        putNumber(d);
        putNumber(e);
        return tapeLength;
    }

    public int town(int n) {
        if (refused(false, n < 0 || n > tapeLength)) {
            return NONE;
        }
        tapeLength = 0;
        boolean isTown = reader.read(tape, n);
        fault = reader.fault;
        faultPlace = reader.faultPlace;
        if (!isTown) {
            return refuse(A_FAULT);
        }
        town.copy(reader.draft);
        now.settle(town.first);
        suppositions.list(town, trial);
        log.count = 0;
        imageCount = 0;
        return town.people;
    }

    public int fault() {
        return fault;
    }

    public int where() {
        return trouble == A_FAULT ? faultPlace : NONE;
    }

    // ---- now

    public int person(int p, int what) {
        if (refused(isNoPerson(p) || what < 0 || what > 2, false)) {
            return NONE;
        }
        if (what == 0) {
            return now.state.houseOf[p];
        }
        return what == 1 ? town.deadFor(p) : now.heardBits(p, now.state.night);
    }

    public int dead(int d, int what) {
        if (refused(isNoDead(d) || what < 0 || what > 3, false)) {
            return NONE;
        }
        switch (what) {
            case 0:
                return town.law[d];
            case 1:
                return now.state.slip[d];
            case 2:
                return town.forWhom[d];
            default:
                return now.state.mirror[d];
        }
    }

    public int house(int h) {
        if (refused(isNoHouse(h), false)) {
            return NONE;
        }
        return now.street.occupantOf(h);
    }

    public int comesOut(int d, int night) {
        if (refused(isNoDead(d), isNoNight(night))) {
            return NONE;
        }
        return now.landing(d, night);
    }

    public int outIf(int d, int aim, int night) {
        if (refused(isNoDead(d) || isNoHouse(aim), isNoNight(night))) {
            return NONE;
        }
        return now.landingAimed(d, aim, night);
    }

    public int hears(int d, int night) {
        if (refused(isNoDead(d), isNoNight(night))) {
            return NONE;
        }
        return now.listener(d, night);
    }

    public int off(int d, int night) {
        if (refused(isNoDead(d), isNoNight(night))) {
            return NONE;
        }
        int who = now.listener(d, night);
        return isNoPerson(who) ? NOTHING : town.around(now.state.houseOf[who] - now.landing(d, night));
    }

    public int right(int night) {
        if (refused(isNoTown(), isNoNight(night))) {
            return NONE;
        }
        return now.rightBits(night);
    }

    public int medium(int night) {
        if (refused(isNoTown(), isNoNight(night))) {
            return NONE;
        }
        int best = 0;
        int most = -1;
        for (int p = 0; p < town.people; p++) {
            int many = Integer.bitCount(now.heardBits(p, night));
            if (many > most) {
                most = many;
                best = p;
            }
        }
        return best;
    }

    public int silent(int night) {
        if (refused(isNoTown(), isNoNight(night))) {
            return NONE;
        }
        int bits = 0;
        for (int p = 0; p < town.people; p++) {
            if (now.heardBits(p, night) == 0) {
                bits |= 1 << p;
            }
        }
        return bits;
    }

    // ---- night by night

    public int rightFrom(int d, int night) {
        if (refused(isNoDead(d), isNoNight(night))) {
            return NONE;
        }
        for (int n = night; n <= LAST_NIGHT; n++) {
            if (now.isRight(d, n)) {
                return n;
            }
        }
        return NOTHING;
    }

    public int nightsOf(int p, int d) {
        if (refused(isNoPerson(p) || isNoDead(d), false)) {
            return NONE;
        }
        int nights = 0;
        for (int n = 0; n <= LAST_NIGHT; n++) {
            if (now.listener(d, n) == p) {
                nights++;
            }
        }
        return nights;
    }

    public int round(int d) {
        if (refused(isNoDead(d), false)) {
            return NONE;
        }
        int slip = now.state.slip[d];
        if (town.law[d] == SWING) {
            return town.around(2 * slip) == 0 ? 1 : 2;
        }
        return town.law[d] == DRIFT ? town.nightsToGoRound(slip) : 1;
    }

    public int bestNight() {
        if (refused(isNoTown(), false)) {
            return NONE;
        }
        int best = 0;
        int most = -1;
        for (int n = 0; n <= LAST_NIGHT; n++) {
            int many = now.rightCount(n);
            if (many > most) {
                most = many;
                best = n;
            }
        }
        return best;
    }

    public int perfect() {
        if (refused(isNoTown(), false)) {
            return NONE;
        }
        int nights = 0;
        for (int n = 0; n <= LAST_NIGHT; n++) {
            if (now.rightCount(n) == town.dead) {
                nights++;
            }
        }
        return nights;
    }

    public int together(int d, int other) {
        if (refused(isNoDead(d) || isNoDead(other) || d == other, false)) {
            return NONE;
        }
        for (int n = 0; n <= LAST_NIGHT; n++) {
            if (now.listener(d, n) == now.listener(other, n)) {
                return n;
            }
        }
        return NOTHING;
    }

    // ---- aims, mirrors

    public int aimFor(int d, int p, int night) {
        if (refused(isNoDead(d) || isNoPerson(p), isNoNight(night))) {
            return NONE;
        }
        for (int aim = 0; aim < town.houses; aim++) {
            if (now.listenerAimed(d, aim, night) == p) {
                return aim;
            }
        }
        return NOTHING;
    }

    public int aims(int d, int p, int night) {
        if (refused(isNoDead(d) || isNoPerson(p), isNoNight(night))) {
            return NONE;
        }
        int many = 0;
        for (int aim = 0; aim < town.houses; aim++) {
            if (now.listenerAimed(d, aim, night) == p) {
                many++;
            }
        }
        return many;
    }

    public int mirrorFor(int d, int night) {
        if (refused(isNoDead(d), isNoNight(night))) {
            return NONE;
        }
        for (int h = 0; h < town.houses; h++) {
            if (now.isRightWith(d, now.state.slip[d], h, night)) {
                return h;
            }
        }
        return NOTHING;
    }

    public int mirrorBest(int d) {
        if (refused(isNoDead(d), false)) {
            return NONE;
        }
        int best = 0;
        int most = -1;
        for (int h = 0; h < town.houses; h++) {
            int nights = now.rightNightsWith(d, h);
            if (nights > most) {
                most = nights;
                best = h;
            }
        }
        return best;
    }

    public int slipFor(int d, int night) {
        if (refused(isNoDead(d), isNoNight(night))) {
            return NONE;
        }
        for (int slip = 0; slip <= LAST_SLIP; slip++) {
            if (now.isRightWith(d, slip, now.state.mirror[d], night)) {
                return slip;
            }
        }
        return NOTHING;
    }

    // ---- houses changed

    public int seat(int night) {
        if (refused(isNoTown(), isNoNight(night))) {
            return NONE;
        }
        seating.weigh(now, night);
        return seating.mostRight();
    }

    public int seatAt(int p, int night) {
        if (refused(isNoPerson(p), isNoNight(night))) {
            return NONE;
        }
        seating.weigh(now, night);
        return now.state.houseOf[seating.placeOf(p, now.state)];
    }

    public int likes(int p, int other, int night) {
        if (refused(isNoPerson(p) || isNoPerson(other) || p == other, isNoNight(night))) {
            return NONE;
        }
        seating.weigh(now, night);
        return seating.isLiked(p, other) ? 1 : 0;
    }

    public int restless(int night) {
        if (refused(isNoTown(), isNoNight(night))) {
            return NONE;
        }
        seating.weigh(now, night);
        int pairs = 0;
        for (int p = 0; p < town.people; p++) {
            for (int other = p + 1; other < town.people; other++) {
                if (seating.isLiked(p, other)) {
                    pairs++;
                }
            }
        }
        return pairs;
    }

    public int moveFor(int p, int night) {
        if (refused(isNoPerson(p), isNoNight(night))) {
            return NONE;
        }
        int best = NOTHING;
        int most = now.rightCount(night);
        trial.settle(now.state);
        for (int h = 0; h < town.houses; h++) {
            if (now.street.occupantOf(h) == NOTHING) {
                trial.putPerson(p, h);
                int many = trial.rightCount(night);
                if (many > most) {
                    most = many;
                    best = h;
                }
            }
        }
        return best;
    }

    // ---- brought where they are for

    public int bring(int from, int night) {
        if (refused(isNoHouse(from), isNoNight(night))) {
            return NONE;
        }
        errand.plan(now, night);
        return errand.stepsFrom(from, now);
    }

    public int bringFrom(int night) {
        if (refused(isNoTown(), isNoNight(night))) {
            return NONE;
        }
        errand.plan(now, night);
        int best = 0;
        int fewest = FAR;
        for (int h = 0; h < town.houses; h++) {
            int many = errand.stepsFrom(h, now);
            if (many < fewest) {
                fewest = many;
                best = h;
            }
        }
        return best;
    }

    public int steps(int h, int to) {
        if (refused(isNoHouse(h) || isNoHouse(to), false)) {
            return NONE;
        }
        return town.distance(h, to);
    }

    public int ring(int p, int night) {
        if (refused(isNoPerson(p), isNoNight(night))) {
            return NONE;
        }
        return ringLength(p, night);
    }

    public int ringAt(int p, int night, int i) {
        if (refused(isNoPerson(p), isNoNight(night))) {
            return NONE;
        }
        if (i < 0 || i >= ringLength(p, night)) {
            return refuse(NONE_SUCH);
        }
        int at = p;
        for (int k = 0; k < i; k++) {
            at = nextInRing(at, night);
        }
        return at;
    }

    // ---- unsure slips

    public int fits() {
        if (refused(isNoTown(), false)) {
            return NONE;
        }
        return suppositions.count;
    }

    public int fitAt(int i) {
        if (refused(isNoTown() || i < 0 || i >= suppositions.count, false)) {
            return NONE;
        }
        return suppositions.sets[i];
    }

    public int could() {
        if (refused(isNoTown(), false)) {
            return NONE;
        }
        return suppositions.inSome();
    }

    public int surely() {
        if (refused(isNoTown(), false)) {
            return NONE;
        }
        return suppositions.inAll();
    }

    public int ask() {
        if (refused(isNoTown(), false)) {
            return NONE;
        }
        return suppositions.whomToAsk(town.unsure);
    }

    public int askLeaves() {
        if (refused(isNoTown(), false)) {
            return NONE;
        }
        int whom = suppositions.whomToAsk(town.unsure);
        return whom < 0 ? NOTHING : suppositions.leftAtMost(whom);
    }

    public int judge() {
        if (refused(isNoTown(), false)) {
            return NONE;
        }
        return suppositions.firstNotSo;
    }

    // ---- bishop and sweep

    public int chat(int soot, boolean bishop, boolean sweep, boolean ofSweep) {
        if (refused(isNoTown(), isNoSoot(soot))) {
            return CHAT_REFUSED;
        }
        return ofSweep ? gain(sweep, bishop, soot) : gain(bishop, sweep, soot);
    }

    public int rests(int soot) {
        if (refused(isNoTown(), isNoSoot(soot))) {
            return NONE;
        }
        int many = 0;
        for (int pair = 0; pair < 4; pair++) {
            if (isRest(pair, soot)) {
                many++;
            }
        }
        return many;
    }

    public int rest(int soot) {
        if (refused(isNoTown(), isNoSoot(soot))) {
            return NONE;
        }
        for (int pair = 0; pair < 4; pair++) {
            if (isRest(pair, soot)) {
                return (bishopTalks(pair) ? 10 : 0) + (sweepTalks(pair) ? 1 : 0);
            }
        }
        return NOTHING;
    }

    // ---- lips

    public long odds(int d, int night, boolean lower) {
        if (refused(isNoDead(d), isNoNight(night))) {
            return NONE;
        }
        return inLowestTerms(lips.hundredths(now, d, town.forWhom[d], night), 100, lower);
    }

    public long most(int many, int night, boolean lower) {
        if (refused(isNoTown(), many < 0 || many > MOST_DEAD || isNoNight(night))) {
            return NONE;
        }
        lips.countWays(now, night);
        return inLowestTerms(lips.waysFrom(many), lips.waysFrom(0), lower);
    }

    public long mean(int p, int night, boolean lower) {
        if (refused(isNoPerson(p), isNoNight(night))) {
            return NONE;
        }
        long sum = 0;
        for (int d = 0; d < town.dead; d++) {
            sum += lips.hundredths(now, d, p, night);
        }
        return inLowestTerms(sum, 100, lower);
    }

    public int heardBy(int d, int seed, int night) {
        if (refused(isNoDead(d), isNoSeed(seed) || isNoNight(night))) {
            return NONE;
        }
        lips.seed = seed;
        lips.skip(night * town.dead + d);
        return lips.drawnListener(now, d, night);
    }

    public int rights(int seed, int n) {
        if (refused(isNoTown(), isNoSeed(seed) || isNoNight(n))) {
            return NONE;
        }
        lips.seed = seed;
        int many = 0;
        for (int night = 0; night < n; night++) {
            for (int d = 0; d < town.dead; d++) {
                if (lips.drawnListener(now, d, night) == town.forWhom[d]) {
                    many++;
                }
            }
        }
        return many;
    }

    // ---- acts

    public int night() {
        if (refused(isNoTown(), false)) {
            return NONE;
        }
        int before = now.state.night;
        if (before >= LAST_NIGHT) {
            return refuse(NO_ROOM);
        }
        log.keep(Log.NIGHT, 0, before);
        now.state.night = before + 1;
        return now.rightBits(before + 1);
    }

    public int move(int p, int h) {
        if (refused(isNoPerson(p) || isNoHouse(h), false)) {
            return NONE;
        }
        if (now.street.occupantOf(h) != NOTHING) {
            return refuse(NOT_SO);
        }
        int before = now.state.houseOf[p];
        log.keep(Log.HOUSE, p, before);
        now.putPerson(p, h);
        return before;
    }

    public boolean hang(int d, int h) {
        if (refused(isNoDead(d) || isNoHouse(h), false)) {
            return false;
        }
        return changeMirror(d, h);
    }

    public boolean take(int d) {
        if (refused(isNoDead(d), false)) {
            return false;
        }
        return changeMirror(d, NOTHING);
    }

    public boolean teach(int d, int slip) {
        if (refused(isNoDead(d), slip < 0 || slip > LAST_SLIP)) {
            return false;
        }
        int before = now.state.slip[d];
        if (before == slip) {
            trouble = NOT_SO;
            return false;
        }
        log.keep(Log.SLIP, d, before);
        now.state.slip[d] = slip;
        return true;
    }

    public boolean undo() {
        trouble = log.count == 0 ? NONE_LEFT : 0;
        if (trouble != 0) {
            return false;
        }
        log.revertLatest(now);
        return true;
    }

    public int image() {
        if (refused(isNoTown(), false)) {
            return NONE;
        }
        if (imageCount >= MOST_IMAGES) {
            return refuse(NO_ROOM);
        }
        images[imageCount].copy(now.state);
        imageCount++;
        return imageCount - 1;
    }

    public boolean back(int image) {
        if (refused(image < 0 || image >= imageCount, false)) {
            return false;
        }
        now.settle(images[image]);
        log.count = 0;
        return true;
    }

    // ---- what is told

    public int led(int i) throws NoSuchElementException {
        int before = 0;
        for (int d = 0; d < town.dead; d++) {
            if (!now.isRight(d, now.state.night)) {
                if (before == i) {
                    return d;
                }
                before++;
            }
        }
        throw new NoSuchElementException("no such dead is led astray");
    }

    public int size(int what) {
        switch (what) {
            case 0:
                return town.houses;
            case 1:
                return town.lips;
            case 2:
                return town.people;
            case 3:
                return town.dead;
            case 4:
                return now.mirrorCount();
            case 5:
                return town.unsure;
            case 6:
                return town.heard;
            case 7:
                return now.state.night;
            case 8:
                return log.count;
            case 9:
                return imageCount;
            case 10:
                return tapeLength;
            default:
                return NONE;
        }
    }

    public int trouble() {
        return trouble;
    }

    // ---- what the calls share

    private void putNumber(int number) {
        for (int shift = 24; shift >= 0; shift -= 8) {
            if (tapeLength < MOST_BYTES) {
                tape[tapeLength] = (byte) (number >> shift);
                tapeLength++;
            }
        }
    }

    /** Every call that may be refused goes through here, so that TROUBLE is always of the latest one. */
    private boolean refused(boolean isNoneSuch, boolean isWrongNumber) {
        trouble = isNoneSuch ? NONE_SUCH : isWrongNumber ? A_NUMBER : 0;
        return trouble != 0;
    }

    private int refuse(int number) {
        trouble = number;
        return NONE;
    }

    private boolean isNoTown() {
        return town.houses == 0;
    }

    private boolean isNoPerson(int p) {
        return p < 0 || p >= town.people;
    }

    private boolean isNoDead(int d) {
        return d < 0 || d >= town.dead;
    }

    private boolean isNoHouse(int h) {
        return h < 0 || h >= town.houses;
    }

    private static boolean isNoNight(int night) {
        return night < 0 || night > LAST_NIGHT;
    }

    private static boolean isNoSoot(int soot) {
        return soot < 0 || soot > LAST_SOOT;
    }

    private static boolean isNoSeed(int seed) {
        return seed < 0 || seed > LAST_SEED;
    }

    private boolean changeMirror(int d, int h) {
        int before = now.state.mirror[d];
        if (before == h) {
            trouble = NOT_SO;
            return false;
        }
        log.keep(Log.MIRROR, d, before);
        now.state.mirror[d] = h;
        return true;
    }

    /** A ring has each person once, so one that is longer than all people never comes back. */
    private int ringLength(int p, int night) {
        int at = p;
        for (int many = 1; many <= town.people; many++) {
            at = nextInRing(at, night);
            if (at == p) {
                return many;
            }
        }
        return NOTHING;
    }

    private int nextInRing(int p, int night) {
        int d = town.firstDeadFor(p);
        return d < 0 ? NOTHING : now.listener(d, night);
    }

    private static int gain(boolean ownTalks, boolean otherTalks, int soot) {
        if (ownTalks) {
            return otherTalks ? 0 : 3;
        }
        return otherTalks ? 2 - soot : 1;
    }

    private static boolean bishopTalks(int pair) {
        return (pair & 2) != 0;
    }

    private static boolean sweepTalks(int pair) {
        return (pair & 1) != 0;
    }

    private static boolean isRest(int pair, int soot) {
        boolean bishop = bishopTalks(pair);
        boolean sweep = sweepTalks(pair);
        return gain(bishop, sweep, soot) >= gain(!bishop, sweep, soot)
            && gain(sweep, bishop, soot) >= gain(!sweep, bishop, soot);
    }

    private static long inLowestTerms(long upper, long lower, boolean wantsLower) {
        long common = commonDivisor(upper, lower);
        if (common < 1) {
            return wantsLower ? 1 : 0;
        }
        return (wantsLower ? lower : upper) / common;
    }

    private static long commonDivisor(long a, long b) {
        long larger = a;
        long smaller = b;
        // Each two rounds halve the numbers, which stay below 2 to the 63rd.
        for (int i = 0; i < 130 && smaller != 0; i++) {
            long remainder = larger % smaller;
            larger = smaller;
            smaller = remainder;
        }
        return larger;
    }

    private static void copyRow(int[] from, int[] to) {
        System.arraycopy(from, 0, to, 0, Math.min(from.length, to.length));
    }

    /** What ACTS change, and IMAGES keep. */
    private static final class State {
        int night;
        final int[] houseOf = new int[MOST_PEOPLE];
        final int[] slip = new int[MOST_DEAD];
        final int[] mirror = new int[MOST_DEAD];

        void copy(State other) {
            night = other.night;
            copyRow(other.houseOf, houseOf);
            copyRow(other.slip, slip);
            copyRow(other.mirror, mirror);
        }
    }

    /** What a text tells. No houses: there is no TOWN. */
    private static final class Town {
        int houses;
        int lips;
        int people;
        int dead;
        int unsure;
        int heard;
        final State first = new State();
        final int[] law = new int[MOST_DEAD];
        final int[] forWhom = new int[MOST_DEAD];
        final int[] unsureDead = new int[MOST_UNSURE];
        final int[] unsureSlip = new int[MOST_UNSURE];
        final int[] heardPerson = new int[MOST_HEARD];
        final int[] heardDead = new int[MOST_HEARD];
        final int[] heardNight = new int[MOST_HEARD];

        void clear() {
            houses = 0;
            lips = 0;
            people = 0;
            dead = 0;
            unsure = 0;
            heard = 0;
        }

        void copy(Town other) {
            houses = other.houses;
            lips = other.lips;
            people = other.people;
            dead = other.dead;
            unsure = other.unsure;
            heard = other.heard;
            first.copy(other.first);
            copyRow(other.law, law);
            copyRow(other.forWhom, forWhom);
            copyRow(other.unsureDead, unsureDead);
            copyRow(other.unsureSlip, unsureSlip);
            copyRow(other.heardPerson, heardPerson);
            copyRow(other.heardDead, heardDead);
            copyRow(other.heardNight, heardNight);
        }

        int around(int place) {
            return houses < 1 ? 0 : Math.floorMod(place, houses);
        }

        int distance(int h, int to) {
            int on = around(to - h);
            return Math.min(on, houses - on);
        }

        int nightsToGoRound(int slip) {
            for (int nights = 1; nights < houses; nights++) {
                if (around(slip * nights) == 0) {
                    return nights;
                }
            }
            return houses;
        }

        int deadFor(int p) {
            int bits = 0;
            for (int d = 0; d < dead; d++) {
                if (forWhom[d] == p) {
                    bits |= 1 << d;
                }
            }
            return bits;
        }

        int firstDeadFor(int p) {
            for (int d = 0; d < dead; d++) {
                if (forWhom[d] == p) {
                    return d;
                }
            }
            return NOTHING;
        }

        boolean isUnsure(int d) {
            for (int k = 0; k < unsure; k++) {
                if (unsureDead[k] == d) {
                    return true;
                }
            }
            return false;
        }

        boolean isHeard(int d, int night) {
            for (int k = 0; k < heard; k++) {
                if (heardDead[k] == d && heardNight[k] == night) {
                    return true;
                }
            }
            return false;
        }

        boolean isTaken(int h) {
            for (int p = 0; p < people; p++) {
                if (first.houseOf[p] == h) {
                    return true;
                }
            }
            return false;
        }
    }

    /** Who hears what comes out at each house, worked out once for each row of houses and not once for each saying. */
    private static final class Street {
        private final int[] occupant = new int[MOST_HOUSES];
        private final int[] listener = new int[MOST_HOUSES];
        private int houses;

        void lay(int houseCount, int[] houseOf, int people) {
            houses = Math.min(houseCount, MOST_HOUSES);
            for (int h = 0; h < houses; h++) {
                occupant[h] = NOTHING;
            }
            for (int p = 0; p < people && p < houseOf.length; p++) {
                if (isHouse(houseOf[p])) {
                    occupant[houseOf[p]] = p;
                }
            }
            // Twice round, as who is first behind the last house is known only then.
            int nearest = NOTHING;
            for (int k = 2 * houses - 1; k >= 0; k--) {
                int h = k < houses ? k : k - houses;
                nearest = occupant[h] == NOTHING ? nearest : occupant[h];
                listener[h] = nearest;
            }
        }

        int occupantOf(int h) {
            return isHouse(h) ? occupant[h] : NOTHING;
        }

        int listenerAt(int h) {
            return isHouse(h) ? listener[h] : NOTHING;
        }

        private boolean isHouse(int h) {
            return h >= 0 && h < houses;
        }
    }

    /** The sayings of a town's dead, as its people, slips and mirrors are. */
    private static final class Voices {
        final Town town;
        final State state = new State();
        final Street street = new Street();

        Voices(Town town) {
            this.town = town;
        }

        void settle(State as) {
            state.copy(as);
            street.lay(town.houses, state.houseOf, town.people);
        }

        void putPerson(int p, int h) {
            state.houseOf[p] = h;
            street.lay(town.houses, state.houseOf, town.people);
        }

        private static int shift(int law, int slip, int night) {
            switch (law) {
                case LATE:
                    return slip;
                case EARLY:
                    return -slip;
                case DRIFT:
                    return slip * night;
                default:
                    return (night & 1) == 0 ? slip : -slip;
            }
        }

        private int landingWith(int d, int aim, int slip, int mirror, int night) {
            int place = aim + shift(town.law[d], slip, night);
            return town.around(mirror < 0 ? place : 2 * mirror - place);
        }

        int landingAimed(int d, int aim, int night) {
            return landingWith(d, aim, state.slip[d], state.mirror[d], night);
        }

        private int aimOf(int d) {
            return state.houseOf[town.forWhom[d]];
        }

        int landing(int d, int night) {
            return landingAimed(d, aimOf(d), night);
        }

        int listenerAimed(int d, int aim, int night) {
            return street.listenerAt(landingAimed(d, aim, night));
        }

        int listener(int d, int night) {
            return street.listenerAt(landingAimed(d, aimOf(d), night));
        }

        int listenerFurtherOn(int d, int night) {
            return street.listenerAt(town.around(landingAimed(d, aimOf(d), night) + 1));
        }

        boolean isRight(int d, int night) {
            return listener(d, night) == town.forWhom[d];
        }

        boolean isRightWith(int d, int slip, int mirror, int night) {
            return street.listenerAt(landingWith(d, aimOf(d), slip, mirror, night)) == town.forWhom[d];
        }

        int rightNightsWith(int d, int mirror) {
            int nights = 0;
            for (int n = 0; n <= LAST_NIGHT; n++) {
                if (isRightWith(d, state.slip[d], mirror, n)) {
                    nights++;
                }
            }
            return nights;
        }

        int rightBits(int night) {
            int bits = 0;
            for (int d = 0; d < town.dead; d++) {
                if (listener(d, night) == town.forWhom[d]) {
                    bits |= 1 << d;
                }
            }
            return bits;
        }

        int rightCount(int night) {
            return Integer.bitCount(rightBits(night));
        }

        int heardBits(int p, int night) {
            int bits = 0;
            for (int d = 0; d < town.dead; d++) {
                if (listener(d, night) == p) {
                    bits |= 1 << d;
                }
            }
            return bits;
        }

        int mirrorCount() {
            int many = 0;
            for (int d = 0; d < town.dead; d++) {
                if (state.mirror[d] >= 0) {
                    many++;
                }
            }
            return many;
        }
    }

    /**
     * People changing houses among each other leave the same houses taken, so whether a saying is right
     * depends on the house of the one it is for alone: the best seating is a best matching.
     */
    private static final class Seating {
        private final int[] worth = new int[MOST_PEOPLE * MOST_PEOPLE];
        private final int[] best = new int[1 << MOST_PEOPLE];
        private int people;

        void weigh(Voices voices, int night) {
            people = voices.town.people;
            for (int k = 0; k < worth.length; k++) {
                worth[k] = 0;
            }
            for (int d = 0; d < voices.town.dead; d++) {
                for (int place = 0; place < people; place++) {
                    if (voices.listenerAimed(d, voices.state.houseOf[place], night) == place) {
                        worth[voices.town.forWhom[d] * MOST_PEOPLE + place]++;
                    }
                }
            }
        }

        private int worthOf(int p, int place) {
            return worth[p * MOST_PEOPLE + place];
        }

        boolean isLiked(int p, int other) {
            return worthOf(p, other) + worthOf(other, p) > worthOf(p, p) + worthOf(other, other);
        }

        /** best[taken] is for the people who have no house yet, the first ones having those that are taken. */
        int mostRight() {
            int all = (1 << people) - 1;
            best[all] = 0;
            for (int taken = all - 1; taken >= 0; taken--) {
                int p = Integer.bitCount(taken);
                int most = 0;
                for (int place = 0; place < people; place++) {
                    if ((taken & 1 << place) == 0) {
                        most = Math.max(most, worthOf(p, place) + best[taken | 1 << place]);
                    }
                }
                best[taken] = most;
            }
            return best[0];
        }

        int placeOf(int p, State state) {
            mostRight();
            int taken = 0;
            int place = p;
            for (int q = 0; q <= p; q++) {
                place = firstBestPlace(q, taken, state);
                taken |= 1 << place;
            }
            return place;
        }

        private int firstBestPlace(int p, int taken, State state) {
            int first = p;
            int leastHouse = MOST_HOUSES;
            for (int place = 0; place < people; place++) {
                boolean isBest = (taken & 1 << place) == 0
                    && worthOf(p, place) + best[taken | 1 << place] == best[taken];
                if (isBest && state.houseOf[place] < leastHouse) {
                    leastHouse = state.houseOf[place];
                    first = place;
                }
            }
            return first;
        }
    }

    /** BRING: the fewest steps still to go, for each set of sayings fetched and brought and each person one is at. */
    private static final class Errand {
        private final int[] threes = new int[1 << MOST_DEAD];
        private final int[] left;
        private final int[] fetchAt = new int[MOST_PEOPLE];
        private final int[] bringTo = new int[MOST_PEOPLE];
        private int astray;

        Errand() {
            int power = 1;
            for (int d = 0; d < MOST_DEAD; d++) {
                for (int bits = 0; bits < 1 << d; bits++) {
                    threes[bits | 1 << d] = threes[bits] + power;
                }
                power *= 3;
            }
            left = new int[power * MOST_PEOPLE];
        }

        void plan(Voices voices, int night) {
            collect(voices, night);
            // A visit only adds sayings, so all that may follow upon a state stands above it.
            for (int fetched = astray; fetched >= 0; fetched--) {
                if ((fetched & ~astray) == 0) {
                    for (int brought = fetched; brought >= 0; brought--) {
                        if ((brought & ~fetched) == 0) {
                            workOut(voices, fetched, brought);
                        }
                    }
                }
            }
        }

        private void collect(Voices voices, int night) {
            astray = 0;
            for (int p = 0; p < MOST_PEOPLE; p++) {
                fetchAt[p] = 0;
                bringTo[p] = 0;
            }
            for (int d = 0; d < voices.town.dead; d++) {
                int who = voices.listener(d, night);
                int forWhom = voices.town.forWhom[d];
                if (who >= 0 && who != forWhom) {
                    astray |= 1 << d;
                    fetchAt[who] |= 1 << d;
                    bringTo[forWhom] |= 1 << d;
                }
            }
        }

        private void workOut(Voices voices, int fetched, int brought) {
            for (int p = 0; p < voices.town.people; p++) {
                // Whoever is at a person has fetched and brought there what he could.
                boolean mayBe = (fetchAt[p] & ~fetched) == 0 && (bringTo[p] & fetched & ~brought) == 0;
                if (mayBe) {
                    left[indexOf(fetched, brought, p)] = fewestOn(voices, fetched, brought, p);
                }
            }
        }

        private int fewestOn(Voices voices, int fetched, int brought, int p) {
            if (brought == astray) {
                return 0;
            }
            int fewest = FAR;
            for (int q = 0; q < voices.town.people; q++) {
                int nextFetched = fetched | fetchAt[q];
                int nextBrought = brought | fetched & bringTo[q];
                if (nextFetched != fetched || nextBrought != brought) {
                    int steps = voices.town.distance(voices.state.houseOf[p], voices.state.houseOf[q]);
                    fewest = Math.min(fewest, steps + left[indexOf(nextFetched, nextBrought, q)]);
                }
            }
            return fewest;
        }

        int stepsFrom(int h, Voices voices) {
            if (astray == 0) {
                return 0;
            }
            int fewest = FAR;
            for (int q = 0; q < voices.town.people; q++) {
                if (fetchAt[q] != 0) {
                    int steps = voices.town.distance(h, voices.state.houseOf[q]);
                    fewest = Math.min(fewest, steps + left[indexOf(fetchAt[q], 0, q)]);
                }
            }
            return fewest;
        }

        private int indexOf(int fetched, int brought, int p) {
            return (threes[fetched] + threes[brought]) * MOST_PEOPLE + p;
        }
    }

    /** The FITS are of what is told at first alone, so they are listed once for each town. */
    private static final class Fits {
        final int[] sets = new int[1 << MOST_UNSURE];
        int count;
        int firstNotSo = NOTHING;

        void list(Town town, Voices trial) {
            count = 0;
            for (int set = 0; set < 1 << town.unsure; set++) {
                suppose(town, trial, set);
                int notSo = notSoBy(town, trial);
                if (set == 0) {
                    firstNotSo = notSo;
                }
                if (notSo < 0) {
                    sets[count] = set;
                    count++;
                }
            }
        }

        private static void suppose(Town town, Voices trial, int set) {
            trial.settle(town.first);
            for (int k = 0; k < town.unsure; k++) {
                if ((set & 1 << k) != 0) {
                    trial.state.slip[town.unsureDead[k]] = town.unsureSlip[k];
                }
            }
        }

        private static int notSoBy(Town town, Voices trial) {
            for (int k = 0; k < town.heard; k++) {
                if (trial.listener(town.heardDead[k], town.heardNight[k]) != town.heardPerson[k]) {
                    return k;
                }
            }
            return NOTHING;
        }

        int inSome() {
            int bits = 0;
            for (int i = 0; i < count; i++) {
                bits |= sets[i];
            }
            return bits;
        }

        int inAll() {
            int bits = count == 0 ? 0 : -1;
            for (int i = 0; i < count; i++) {
                bits &= sets[i];
            }
            return bits;
        }

        int leftAtMost(int k) {
            int with = 0;
            for (int i = 0; i < count; i++) {
                with += sets[i] >> k & 1;
            }
            return Math.max(with, count - with);
        }

        int whomToAsk(int unsure) {
            int whom = NOTHING;
            int fewest = FAR;
            for (int k = 0; k < unsure && count > 0; k++) {
                int leaves = leftAtMost(k);
                if (leaves < fewest) {
                    fewest = leaves;
                    whom = k;
                }
            }
            return whom;
        }
    }

    /** LIPS by chance are reckoned in hundredths of each saying, so that all stays whole. */
    private static final class Lips {
        private final long[] ways = new long[MOST_DEAD + 1];
        int seed;

        int hundredths(Voices voices, int d, int p, int night) {
            int further = voices.town.lips;
            return (voices.listener(d, night) == p ? 100 - further : 0)
                + (voices.listenerFurtherOn(d, night) == p ? further : 0);
        }

        /** ways[many] are those, of a hundred for each dead, by which just so many are right. */
        void countWays(Voices voices, int night) {
            for (int many = 1; many <= MOST_DEAD; many++) {
                ways[many] = 0;
            }
            ways[0] = 1;
            for (int d = 0; d < voices.town.dead; d++) {
                int right = hundredths(voices, d, voices.town.forWhom[d], night);
                for (int many = MOST_DEAD; many > 0; many--) {
                    ways[many] = ways[many] * (100 - right) + ways[many - 1] * right;
                }
                ways[0] *= 100 - right;
            }
        }

        long waysFrom(int many) {
            long sum = 0;
            for (int k = many; k <= MOST_DEAD; k++) {
                sum += ways[k];
            }
            return sum;
        }

        private int draw() {
            seed = (75 * seed + 74) % (LAST_SEED + 1);
            return seed % 100;
        }

        void skip(int draws) {
            for (int k = 0; k < draws; k++) {
                draw();
            }
        }

        int drawnListener(Voices voices, int d, int night) {
            return draw() < voices.town.lips ? voices.listenerFurtherOn(d, night) : voices.listener(d, night);
        }
    }

    /** The latest ACTS, each by what it changed and what that was before. */
    private static final class Log {
        static final int NIGHT = 0;
        static final int HOUSE = 1;
        static final int MIRROR = 2;
        static final int SLIP = 3;
        private static final int MOST_ACTS = 16;

        int count;
        private final int[] kind = new int[MOST_ACTS];
        private final int[] whose = new int[MOST_ACTS];
        private final int[] before = new int[MOST_ACTS];

        void keep(int actKind, int who, int was) {
            if (count >= MOST_ACTS) {
                forgetOldest();
            }
            kind[count] = actKind;
            whose[count] = who;
            before[count] = was;
            count++;
        }

        private void forgetOldest() {
            count = MOST_ACTS - 1;
            for (int i = 0; i < count; i++) {
                kind[i] = kind[i + 1];
                whose[i] = whose[i + 1];
                before[i] = before[i + 1];
            }
        }

        void revertLatest(Voices now) {
            if (count < 1) {
                return;
            }
            count--;
            int who = whose[count];
            int was = before[count];
            switch (kind[count]) {
                case NIGHT:
                    now.state.night = was;
                    break;
                case HOUSE:
                    now.putPerson(who, was);
                    break;
                case MIRROR:
                    now.state.mirror[who] = was;
                    break;
                default:
                    now.state.slip[who] = was;
                    break;
            }
        }
    }

    /** The TOKENS of a text, one at a time; a WORD of up to eight letters is held as a number, as a WHOLE is. */
    private static final class Tokens {
        static final int END = 0;
        static final int WORD = 1;
        static final int WHOLE = 2;
        static final int PART = 3;
        static final int WRONG = 4;
        private static final int BLANK = 5;
        private static final int MOST_LETTERS = 8;
        private static final int MOST_DIGITS = 3;

        int kind;
        int place;
        long value;
        private byte[] text = new byte[0];
        private int length;
        private int next;

        void begin(byte[] bytes, int many) {
            text = bytes;
            length = Math.min(many, bytes.length);
            next = 0;
            step();
        }

        void step() {
            while (next < length && sortAt(next) == BLANK) {
                next++;
            }
            place = next;
            kind = sortAt(place);
            value = 0;
            if (kind == WORD) {
                while (next < length && sortAt(next) == WORD) {
                    value = value * 27 + text[next] - 'a' + 1;
                    next++;
                }
                kind = next - place > MOST_LETTERS ? WRONG : WORD;
            } else if (kind == WHOLE) {
                while (next < length && sortAt(next) == WHOLE) {
                    value = value * 10 + text[next] - '0';
                    next++;
                }
                kind = next - place > MOST_DIGITS ? WRONG : WHOLE;
            } else if (kind != END) {
                next++;
            }
        }

        private int sortAt(int i) {
            if (i < 0 || i >= length) {
                return END;
            }
            byte b = text[i];
            if (b >= 'a' && b <= 'z') {
                return WORD;
            }
            if (b >= '0' && b <= '9') {
                return WHOLE;
            }
            if (b == ';') {
                return PART;
            }
            return b == ' ' ? BLANK : WRONG;
        }

        boolean isWord(String word) {
            long asked = 0;
            for (int i = 0; i < word.length(); i++) {
                asked = asked * 27 + word.charAt(i) - 'a' + 1;
            }
            return kind == WORD && value == asked;
        }
    }

    /** Reads a text into a draft; behind the first FAULT all that takes tokens stands still. */
    private static final class Reader {
        private static final int FORM = 1;
        private static final int UNTOLD = 2;
        private static final int AGAIN = 3;
        private static final int BOUNDS = 4;
        private static final int MANY = 5;
        private static final int LACKS = 6;

        private static final int TOWN = 0;
        private static final int PERSON = 1;
        private static final int DEAD = 2;
        private static final int MIRROR = 3;
        private static final int UNSURE = 4;
        private static final int HEARD = 5;

        final Town draft = new Town();
        int fault;
        int faultPlace = NONE;
        private final Tokens tokens = new Tokens();
        private final long[] personName = new long[MOST_PEOPLE];
        private final long[] deadName = new long[MOST_DEAD];
        private int takenPlace;

        boolean read(byte[] bytes, int length) {
            fault = 0;
            faultPlace = NONE;
            draft.clear();
            tokens.begin(bytes, length);
            readLine();
            // Each line behind the first has its ; so there are no more of those than bytes.
            for (int k = 0; k < length && fault == 0 && tokens.kind != Tokens.END; k++) {
                takeToken(tokens.kind == Tokens.PART);
                if (fault == 0) {
                    readLine();
                }
            }
            if (draft.people == 0) {
                fail(LACKS, tokens.place);
            }
            return fault == 0;
        }

        private void fail(int number, int place) {
            if (fault == 0) {
                fault = number;
                faultPlace = place;
            }
        }

        private void readLine() {
            switch (lineSort()) {
                case TOWN:
                    readTown();
                    break;
                case PERSON:
                    readPerson();
                    break;
                case DEAD:
                    readDead();
                    break;
                case MIRROR:
                    readMirror();
                    break;
                case UNSURE:
                    readUnsure();
                    break;
                case HEARD:
                    readHeard();
                    break;
                default:
                    fail(FORM, tokens.place);
                    break;
            }
        }

        private void beginLine(boolean isFull) {
            if (draft.houses == 0) {
                fail(LACKS, tokens.place);
            } else if (isFull) {
                fail(MANY, tokens.place);
            }
            takeToken(true);
        }

        private void readTown() {
            if (draft.houses != 0) {
                fail(AGAIN, tokens.place);
            }
            takeToken(true);
            takeWord("houses");
            int houses = takeWhole(LEAST_HOUSES, MOST_HOUSES);
            takeWord("lips");
            int lips = takeWhole(0, MOST_LIPS);
            if (fault == 0) {
                draft.houses = houses;
                draft.lips = lips;
            }
        }

        private void readPerson() {
            beginLine(draft.people >= MOST_PEOPLE);
            long name = takeNewName();
            takeWord("house");
            int house = takeWhole(0, draft.houses - 1);
            if (fault == 0 && draft.isTaken(house)) {
                fail(AGAIN, takenPlace);
            }
            if (fault == 0) {
                personName[draft.people] = name;
                draft.first.houseOf[draft.people] = house;
                draft.people++;
            }
        }

        private void readDead() {
            beginLine(draft.dead >= MOST_DEAD);
            long name = takeNewName();
            int law = takeLaw();
            takeWord("slip");
            int slip = takeWhole(0, LAST_SLIP);
            takeWord("for");
            int person = takeTold(personName, draft.people);
            if (fault == 0) {
                deadName[draft.dead] = name;
                draft.law[draft.dead] = law;
                draft.forWhom[draft.dead] = person;
                draft.first.slip[draft.dead] = slip;
                draft.first.mirror[draft.dead] = NOTHING;
                draft.dead++;
            }
        }

        private void readMirror() {
            beginLine(false);
            int d = takeTold(deadName, draft.dead);
            if (fault == 0 && draft.first.mirror[d] >= 0) {
                fail(AGAIN, takenPlace);
            }
            int house = takeWhole(0, draft.houses - 1);
            if (fault == 0) {
                draft.first.mirror[d] = house;
            }
        }

        private void readUnsure() {
            beginLine(draft.unsure >= MOST_UNSURE);
            int d = takeTold(deadName, draft.dead);
            if (fault == 0 && draft.isUnsure(d)) {
                fail(AGAIN, takenPlace);
            }
            int slip = takeWhole(0, LAST_SLIP);
            if (fault == 0) {
                draft.unsureDead[draft.unsure] = d;
                draft.unsureSlip[draft.unsure] = slip;
                draft.unsure++;
            }
        }

        private void readHeard() {
            beginLine(draft.heard >= MOST_HEARD);
            int person = takeTold(personName, draft.people);
            int d = takeTold(deadName, draft.dead);
            takeWord("night");
            int night = takeWhole(0, LAST_HEARD_NIGHT);
            if (fault == 0 && draft.isHeard(d, night)) {
                fail(AGAIN, takenPlace);
            }
            if (fault == 0) {
                draft.heardPerson[draft.heard] = person;
                draft.heardDead[draft.heard] = d;
                draft.heardNight[draft.heard] = night;
                draft.heard++;
            }
        }

        /** Takes the token if it is one that may stand here, and else tells the FORM of it. */
        private void takeToken(boolean mayStand) {
            if (!mayStand) {
                fail(FORM, tokens.place);
            }
            if (fault == 0) {
                takenPlace = tokens.place;
                tokens.step();
            }
        }

        private void takeWord(String word) {
            takeToken(tokens.isWord(word));
        }

        private int takeWhole(int least, int most) {
            int whole = (int) tokens.value;
            takeToken(tokens.kind == Tokens.WHOLE);
            if (whole < least || whole > most) {
                fail(BOUNDS, takenPlace);
            }
            return whole;
        }

        private int takeLaw() {
            int law = lawOfToken();
            takeToken(law >= 0);
            return law;
        }

        private int lawOfToken() {
            if (tokens.isWord("late")) {
                return LATE;
            }
            if (tokens.isWord("early")) {
                return EARLY;
            }
            if (tokens.isWord("drift")) {
                return DRIFT;
            }
            return tokens.isWord("swing") ? SWING : NONE;
        }

        /** The sort of LINE that the token begins, and that is no NAME therefore. */
        private int lineSort() {
            if (tokens.isWord("town")) {
                return TOWN;
            }
            if (tokens.isWord("person")) {
                return PERSON;
            }
            if (tokens.isWord("dead")) {
                return DEAD;
            }
            if (tokens.isWord("mirror")) {
                return MIRROR;
            }
            if (tokens.isWord("unsure")) {
                return UNSURE;
            }
            return tokens.isWord("heard") ? HEARD : NONE;
        }

        private long takeNewName() {
            long name = tokens.value;
            takeToken(tokens.kind == Tokens.WORD && lineSort() == NONE);
            boolean isTold = find(name, personName, draft.people) >= 0 || find(name, deadName, draft.dead) >= 0;
            if (isTold) {
                fail(AGAIN, takenPlace);
            }
            return name;
        }

        private int takeTold(long[] names, int many) {
            int found = find(tokens.value, names, many);
            takeToken(tokens.kind == Tokens.WORD && lineSort() == NONE);
            if (found < 0) {
                fail(UNTOLD, takenPlace);
            }
            return found;
        }

        private static int find(long name, long[] names, int many) {
            for (int i = 0; i < many && i < names.length; i++) {
                if (names[i] == name) {
                    return i;
                }
            }
            return NONE;
        }
    }
}
