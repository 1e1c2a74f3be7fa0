import java.util.Arrays;

/**
 * Signatures on a lead: a state of corners, streets, wells, names and contracts, and who is where,
 * awake, and signs what, step by step. ../shared/DOC.md says what each call answers.
 */
public final class LeashedNames {
    public static final int NONE = -1;

    private static final int NO_SUCH = -2;
    private static final int BELOW_ZERO = -3;
    private static final int FAULTY = -4;
    private static final int NOT_NOW = -5;
    private static final int NOTHING = -6;
    private static final int BEYOND = -7;
    private static final int UNLIKE_WIDTHS = -8;
    private static final int NO_GAME = -1000;

    private static final int MOST_CORNERS = 8;
    private static final int MOST_STEPS = 20;
    private static final int MOST_STREETS = 12;
    private static final int MOST_WELLS = 4;
    private static final int MOST_NAMES = 5;
    private static final int MOST_CONTRACTS = 6;
    private static final int MOST_WALK = 8;
    private static final int MOST_TOLD_INK = 40;
    private static final int MOST_INK = 60;
    private static final int MOST_LOOPS = 59;
    private static final int MOST_FEED = 20;
    private static final int MOST_ODDS = 10;
    private static final int MOST_LAW = 3;
    private static final int MOST_ACTS = 30;
    private static final int MOST_RAIN_STEP = 7;
    private static final int MOST_SEED = 2000000000;
    private static final int MOST_DAYS = 20;
    private static final int MOST_COUNTED = 9;
    private static final int LEAST_COUNTED = 2;
    private static final int IMAGES = 3;
    private static final int FOR_A_CONTRACT = 5;

    private final Reader reader;
    private final Told told;
    private final Told spare;
    private final Acts acts;
    private final Day now;
    private final Day trial;
    private final Image[] images;
    private final Rows rows;
    private final int[] traces;

    public LeashedNames() {
        reader = new Reader();
        told = new Told();
        spare = new Told();
        acts = new Acts();
        now = new Day(told, acts);
        trial = new Day(told, acts);
        images = new Image[IMAGES];
        for (int k = 0; k < IMAGES; k++) {
            images[k] = new Image();
        }
        rows = new Rows();
        traces = new int[MOST_CORNERS * (MOST_STEPS + 1)];
    }

    // ---- the tape and the state ----

    public int feed(int a, int b, int c, int d, int e) {
        if (reader.size + 20 > Reader.MOST_BYTES) {
            return NONE;
        }
        reader.addNumber(a);
        reader.addNumber(b);
        reader.addNumber(c);
        reader.addNumber(d);
        reader.addNumber(e);
        return reader.size;
    }

    public int end(int n) {
        if (n < 0 || n > reader.size) {
            return NONE;
        }
        reader.size = n;
        return n;
    }

    public int state() {
        reader.readAll(spare);
        if (reader.fault != 0) {
            return FAULTY;
        }
        told.takeFrom(spare);
        acts.removeAll();
        settle();
        return told.lines;
    }

    public int fault(int what) {
        if (what == 0) {
            return reader.fault;
        }
        return what == 1 ? reader.place : NONE;
    }

    public int street(int street, int what) {
        if (!told.hasStreet(street)) {
            return NO_SUCH;
        }
        switch (what) {
            case 0:
                return told.streetFrom[street];
            case 1:
                return told.streetTo[street];
            case 2:
                return acts.closed >> street & 1;
            default:
                return NO_SUCH;
        }
    }

    public int well(int corner) {
        return told.hasCorner(corner) ? told.wellInk[corner] : NO_SUCH;
    }

    public int name(int name, int what) {
        if (!told.hasName(name)) {
            return NO_SUCH;
        }
        switch (what) {
            case 0:
                return told.home[name];
            case 1:
                return told.toldInk[name];
            case 2:
                return told.loops[name];
            case 3:
                return told.walkLength[name];
            default:
                return NO_SUCH;
        }
    }

    public int walk(int name, int i) {
        if (!told.hasName(name) || i < 0 || i >= told.walkLength[name]) {
            return NO_SUCH;
        }
        return told.walks[name * MOST_WALK + i];
    }

    public int contract(int contract) {
        return told.hasContract(contract) ? told.party[contract] : NO_SUCH;
    }

    // ---- who is where, awake, signs what ----

    public int at(int name, int step) {
        if (!told.hasName(name) || !told.hasStep(step)) {
            return NO_SUCH;
        }
        return now.spot[step * MOST_NAMES + name];
    }

    public int ink(int name, int step) {
        if (!told.hasName(name) || !told.hasStep(step)) {
            return NO_SUCH;
        }
        return now.inkLeft[step * MOST_NAMES + name];
    }

    public int awake(int step) {
        return told.hasStep(step) ? now.namesAwake(step) : NO_SUCH;
    }

    public int here(int corner, int step) {
        if (!told.hasCorner(corner) || !told.hasStep(step)) {
            return NO_SUCH;
        }
        return now.namesAt(corner, step);
    }

    public int sleeps(int name) {
        return told.hasName(name) ? now.firstDry(1 << name) : NO_SUCH;
    }

    public int goes(int name) {
        return told.hasName(name) ? now.streetsGone(name) : NO_SUCH;
    }

    public int stuck(int name) {
        return told.hasName(name) ? now.stepsStuck(name) : NO_SUCH;
    }

    public int sees(int name) {
        return told.hasName(name) ? now.cornersSeen(name) : NO_SUCH;
    }

    public int drinks(int name) {
        return told.hasName(name) ? now.inkDrunk(name) : NO_SUCH;
    }

    public int signed(int contract) {
        return told.hasContract(contract) ? now.firstSigned(1 << contract) : NO_SUCH;
    }

    public int where(int contract) {
        if (!told.hasContract(contract)) {
            return NO_SUCH;
        }
        int step = now.firstSigned(1 << contract);
        return step == NONE ? NONE : now.cornerOfAll(told.party[contract], step);
    }

    public int signs(int step) {
        return told.hasStep(step) ? now.done[step] : NO_SUCH;
    }

    public int deeds(int name) {
        if (!told.hasName(name)) {
            return NO_SUCH;
        }
        return Integer.bitCount(now.done[told.steps] & told.contractsOf(name));
    }

    public int meets(int name, int other) {
        if (!told.hasName(name) || !told.hasName(other)) {
            return NO_SUCH;
        }
        return now.firstTogether(1 << name | 1 << other);
    }

    public int often(int name, int other) {
        if (!told.hasName(name) || !told.hasName(other)) {
            return NO_SUCH;
        }
        return now.stepsTogether(1 << name | 1 << other);
    }

    public int pack() {
        return told.isThere() ? now.largestPack() : NO_SUCH;
    }

    public int busy() {
        return told.isThere() ? now.busiestCorner() : NO_SUCH;
    }

    public int lone(int step) {
        return told.hasStep(step) ? now.namesAlone(step) : NO_SUCH;
    }

    public int total(int step) {
        return told.hasStep(step) ? now.inkOfAll(step) : NO_SUCH;
    }

    public int first() {
        return told.isThere() ? now.firstSigned((1 << MOST_CONTRACTS) - 1) : NO_SUCH;
    }

    public int lies(int contract) {
        return told.hasContract(contract) ? now.firstTogether(told.party[contract]) : NO_SUCH;
    }

    public int thirst() {
        if (!told.isThere()) {
            return NO_SUCH;
        }
        int step = now.firstDry((1 << MOST_NAMES) - 1);
        return step == NONE ? NONE : now.leastDry(step);
    }

    // ---- ways ----

    public int way(int corner, int other) {
        if (!told.hasCorner(corner) || !told.hasCorner(other)) {
            return NO_SUCH;
        }
        return now.net.distance(corner, other);
    }

    public int reach(int corner) {
        return told.hasCorner(corner) ? now.net.within(corner, MOST_CORNERS) : NO_SUCH;
    }

    public int soon(int name, int other) {
        if (!told.hasName(name) || !told.hasName(other)) {
            return NO_SUCH;
        }
        return fewestToGather(1 << name | 1 << other);
    }

    public int gather(int contract) {
        return told.hasContract(contract) ? fewestToGather(told.party[contract]) : NO_SUCH;
    }

    public int hall(int contract) {
        if (!told.hasContract(contract)) {
            return NO_SUCH;
        }
        int party = told.party[contract];
        int steps = fewestToGather(party);
        return steps == NONE ? NONE : leastOf(cornersForAll(party, steps));
    }

    public int cut(int name, int other) {
        int streets = streetsToCut(name, other);
        return streets < 0 ? streets : Integer.bitCount(streets);
    }

    public int cuts(int name, int other) {
        return streetsToCut(name, other);
    }

    // ---- something in place of what is told ----

    public int by(int law) {
        if (!told.isThere() || law < 0 || law > MOST_LAW) {
            return NO_SUCH;
        }
        return signedByLaw(law);
    }

    public int law() {
        if (!told.isThere()) {
            return NO_SUCH;
        }
        int best = 0;
        int most = NONE;
        for (int law = 0; law <= MOST_LAW; law++) {
            int signed = signedByLaw(law);
            if (signed > most) {
                best = law;
                most = signed;
            }
        }
        return best;
    }

    public int needs(int name) {
        if (!told.hasName(name)) {
            return NO_SUCH;
        }
        int due = signedWithInk(name, MOST_TOLD_INK);
        for (int ink = 0; ink < MOST_TOLD_INK; ink++) {
            if (signedWithInk(name, ink) == due) {
                return ink;
            }
        }
        return MOST_TOLD_INK;
    }

    public int lives(int name) {
        if (!told.hasName(name)) {
            return NO_SUCH;
        }
        int best = 0;
        int most = NONE;
        for (int corner = 0; corner < told.corners; corner++) {
            int signed = signedLivingAt(name, corner);
            if (signed > most) {
                best = corner;
                most = signed;
            }
        }
        return best;
    }

    public int dig() {
        if (!told.isThere()) {
            return NO_SUCH;
        }
        int best = NONE;
        int most = signedNow();
        for (int corner = 0; corner < told.corners; corner++) {
            trial.asNow();
            trial.dug = corner;
            int signed = trial.runAll(0);
            if (signed > most) {
                best = corner;
                most = signed;
            }
        }
        return best;
    }

    public int shut() {
        if (!told.isThere()) {
            return NO_SUCH;
        }
        int best = NONE;
        int most = signedNow();
        for (int street = 0; street < told.streets; street++) {
            trial.asNow();
            trial.closed |= 1 << street;
            int signed = trial.runAll(0);
            if (signed > most) {
                best = street;
                most = signed;
            }
        }
        return best;
    }

    // ---- where a name lives, and whose a forgery is ----

    public int homes(int slot, int name) {
        return possibleHomes(slot, name);
    }

    public int ask(int slot, int name) {
        int possible = possibleHomes(slot, name);
        return possible < 0 ? possible : stepToAsk(possible);
    }

    public int leaves(int slot, int name) {
        int possible = possibleHomes(slot, name);
        if (possible < 0) {
            return possible;
        }
        int step = stepToAsk(possible);
        return step == NONE ? Integer.bitCount(possible) : homesLeft(possible, step);
    }

    public int sniffs(int slot) {
        return possibleForged(slot);
    }

    public int next(int slot) {
        int possible = possibleForged(slot);
        if (possible < 0) {
            return possible;
        }
        int best = NONE;
        int fewest = Integer.bitCount(possible);
        for (int counted = LEAST_COUNTED; counted <= MOST_COUNTED; counted++) {
            int left = forgedLeft(possible, counted);
            if (left < fewest) {
                best = counted;
                fewest = left;
            }
        }
        return best;
    }

    // ---- shares, and two who stay or walk ----

    public int worth(int set) {
        if (!told.isThere() || set < 0 || set >= 1 << told.names) {
            return NO_SUCH;
        }
        int worth = 0;
        for (int contract = 0; contract < told.contracts; contract++) {
            if ((told.party[contract] & ~set) == 0) {
                worth++;
            }
        }
        return worth;
    }

    public int share(int name, int what) {
        if (!told.hasName(name) || what < 0 || what > 1) {
            return NO_SUCH;
        }
        return (int) inLowestTerms(sixthsOfShare(name), 6, what);
    }

    public int rests(int name, int other) {
        if (!areTwo(name, other)) {
            return NO_SUCH;
        }
        int rests = 0;
        for (int pair = 0; pair < 4; pair++) {
            int x = pair & 1;
            int y = pair >> 1;
            boolean firstRests = gains(name, other, x, y) >= gains(name, other, 1 - x, y);
            if (firstRests && gains(other, name, y, x) >= gains(other, name, 1 - y, x)) {
                rests |= 1 << pair;
            }
        }
        return rests;
    }

    public int gets(int name, int other, int x, int y) {
        if (!areTwo(name, other) || x < 0 || x > 1 || y < 0 || y > 1) {
            return NO_GAME;
        }
        return gains(name, other, x, y);
    }

    // ---- rain by chance ----

    public long chance(int contract, int step, int what) {
        if (!told.hasContract(contract) || !canRainTo(step) || what < 0 || what > 1) {
            return NO_SUCH;
        }
        return rainMean(1 << contract, step, what);
    }

    public long mean(int step, int what) {
        if (!canRainTo(step) || what < 0 || what > 1) {
            return NO_SUCH;
        }
        return rainMean((1 << MOST_CONTRACTS) - 1, step, what);
    }

    // ---- acts ----

    public int send(int name, int corner, int step) {
        boolean aheadOfLast = told.hasStep(step) && step < told.steps;
        if (!told.hasName(name) || !told.hasCorner(corner) || !aheadOfLast) {
            return NO_SUCH;
        }
        if (acts.number >= MOST_ACTS) {
            return NOT_NOW;
        }
        acts.add(Acts.SEND, name, corner, step);
        settle();
        return now.spot[told.steps * MOST_NAMES + name];
    }

    public int close(int street, int on) {
        if (!told.hasStreet(street) || on < 0 || on > 1) {
            return NO_SUCH;
        }
        if (acts.number >= MOST_ACTS) {
            return NOT_NOW;
        }
        int was = acts.closed >> street & 1;
        acts.add(Acts.CLOSE, street, on, 0);
        settle();
        return was;
    }

    public int undo() {
        if (!told.isThere()) {
            return NO_SUCH;
        }
        if (acts.number == 0) {
            return NOT_NOW;
        }
        acts.removeLast();
        settle();
        return acts.number;
    }

    public int anew() {
        if (!told.isThere()) {
            return NO_SUCH;
        }
        int were = acts.number;
        acts.removeAll();
        settle();
        return were;
    }

    // ---- days drawn ----

    public int drawn(int seed, int what) {
        if (!told.isThere() || !isSeed(seed) || what < 0 || what > 1) {
            return NO_SUCH;
        }
        int rain = rainDrawn(seed);
        return what == 0 ? rain : signedInRain(rain);
    }

    public int luck(int seed, int n, int contract) {
        if (!told.hasContract(contract) || !isSeed(seed) || n < 1 || n > MOST_DAYS) {
            return NO_SUCH;
        }
        int days = 0;
        for (int i = 0; i < n; i++) {
            days += signedInRain(rainDrawn(seed + i)) >> contract & 1;
        }
        return days;
    }

    // ---- loops, counts and images ----

    public int rate(int name, int n) {
        if (!told.hasName(name) || n < 0 || n > MOST_LOOPS) {
            return NO_SUCH;
        }
        if (acts.number > 0) {
            return NOT_NOW;
        }
        int were = told.loops[name];
        told.loops[name] = n;
        return were;
    }

    public int count(int what) {
        switch (what) {
            case 0:
                return told.corners;
            case 1:
                return told.steps;
            case 2:
                return told.law;
            case 3:
                return told.odds;
            case 4:
                return told.streets;
            case 5:
                return told.wells;
            case 6:
                return told.names;
            case 7:
                return told.contracts;
            case 8:
                return acts.number;
            case 9:
                return told.lines;
            case 10:
                return reader.size;
            case 11:
                return rows.howMany();
            default:
                return NONE;
        }
    }

    public int image(int k) {
        if (k < 0 || k >= IMAGES) {
            return NO_SUCH;
        }
        images[k].told.takeFrom(told);
        images[k].acts.takeFrom(acts);
        images[k].kept = true;
        return 0;
    }

    public int back(int k) {
        if (k < 0 || k >= IMAGES) {
            return NO_SUCH;
        }
        if (!images[k].kept) {
            return NOTHING;
        }
        told.takeFrom(images[k].told);
        acts.takeFrom(images[k].acts);
        settle();
        return 0;
    }

    // ---- rows ----

    public int row(int slot, int width, int n) {
        if (!Rows.isSlot(slot) || width < 0 || width > 3 || n > Rows.MOST_NUMBERS) {
            return NO_SUCH;
        }
        if (n < 0) {
            return BELOW_ZERO;
        }
        rows.make(slot, width, n);
        return 0;
    }

    public int write(int slot, int i, long v) {
        if (!Rows.isSlot(slot)) {
            return NO_SUCH;
        }
        if (!rows.isFilled(slot)) {
            return NOTHING;
        }
        if (i < 0 || i >= rows.length[slot]) {
            return BEYOND;
        }
        rows.numbers[slot][i] = Rows.cutTo(rows.width[slot], v);
        return 0;
    }

    public int paste(int slot, int i, int to, int k, int n) {
        if (!Rows.isSlot(slot) || !Rows.isSlot(to)) {
            return NO_SUCH;
        }
        if (!rows.isFilled(slot) || !rows.isFilled(to)) {
            return NOTHING;
        }
        if (rows.width[slot] != rows.width[to]) {
            return UNLIKE_WIDTHS;
        }
        if (!rows.holds(slot, i, n) || !rows.holds(to, k, n)) {
            return BEYOND;
        }
        System.arraycopy(rows.numbers[slot], i, rows.numbers[to], k, n);
        return 0;
    }

    // ---- what several calls share ----

    /** The day as it is now is kept, since most calls ask it and few change it. */
    private void settle() {
        now.asNow();
        now.runAll(0);
    }

    private static int leastOf(int bits) {
        for (int i = 0; i < 31; i++) {
            if ((bits >> i & 1) != 0) {
                return i;
            }
        }
        return NONE;
    }

    /** CORNERS at which all of a party can be so many STEPS from where they live. */
    private int cornersForAll(int party, int steps) {
        int corners = (1 << MOST_CORNERS) - 1;
        for (int name = 0; name < told.names; name++) {
            if ((party >> name & 1) != 0) {
                corners &= now.net.within(told.home[name], steps);
            }
        }
        return corners;
    }

    private int fewestToGather(int party) {
        for (int steps = 0; steps < MOST_CORNERS; steps++) {
            if (cornersForAll(party, steps) != 0) {
                return steps;
            }
        }
        return NONE;
    }

    private boolean areTwo(int name, int other) {
        return told.hasName(name) && told.hasName(other) && name != other;
    }

    private int streetsToCut(int name, int other) {
        if (!areTwo(name, other)) {
            return NO_SUCH;
        }
        int from = told.home[name];
        int to = told.home[other];
        if (from == to) {
            return NONE;
        }
        int sets = 1 << told.streets;
        for (int few = 0; few <= told.streets; few++) {
            for (int set = 0; set < sets; set++) {
                boolean fits = Integer.bitCount(set) == few && (set & acts.closed) == 0;
                if (fits && isCutBy(set, from, to)) {
                    return set;
                }
            }
        }
        return NONE;
    }

    private boolean isCutBy(int streets, int from, int to) {
        trial.net.build(told, acts.closed | streets);
        return (trial.net.within(from, MOST_CORNERS) >> to & 1) == 0;
    }

    private int signedNow() {
        return Integer.bitCount(now.done[told.steps]);
    }

    private int signedByLaw(int law) {
        trial.asNow();
        trial.rule = law;
        return trial.runAll(0);
    }

    private int signedWithInk(int name, int ink) {
        trial.asNow();
        trial.startInk[name] = ink;
        return trial.runAll(0);
    }

    private int signedLivingAt(int name, int corner) {
        trial.asNow();
        trial.startAt[name] = corner;
        return trial.runAll(0);
    }

    private int possibleHomes(int slot, int name) {
        if (!Rows.isSlot(slot) || !told.hasName(name)) {
            return NO_SUCH;
        }
        if (!rows.isFilled(slot)) {
            return NOTHING;
        }
        if (!rows.holdsPairs(slot, 0, told.steps, told.corners - 1)) {
            return NO_SUCH;
        }
        int possible = 0;
        for (int corner = 0; corner < told.corners; corner++) {
            signedLivingAt(name, corner);
            keepTrace(name, corner);
            if (agreesWithSeen(slot, corner)) {
                possible |= 1 << corner;
            }
        }
        return possible;
    }

    private void keepTrace(int name, int corner) {
        for (int step = 0; step <= told.steps; step++) {
            traces[corner * (MOST_STEPS + 1) + step] = trial.spot[step * MOST_NAMES + name];
        }
    }

    private int traced(int corner, int step) {
        return traces[corner * (MOST_STEPS + 1) + step];
    }

    private boolean agreesWithSeen(int slot, int corner) {
        for (int i = 0; i + 1 < rows.length[slot]; i += 2) {
            int step = (int) rows.numbers[slot][i];
            if (traced(corner, step) != rows.numbers[slot][i + 1]) {
                return false;
            }
        }
        return true;
    }

    private int stepToAsk(int possible) {
        int best = NONE;
        int fewest = Integer.bitCount(possible);
        for (int step = 0; step <= told.steps; step++) {
            int left = homesLeft(possible, step);
            if (left < fewest) {
                best = step;
                fewest = left;
            }
        }
        return best;
    }

    /** How many of these homes stay possible at worst, once it is known where the name was then. */
    private int homesLeft(int possible, int step) {
        int most = 0;
        for (int seen = 0; seen < told.corners; seen++) {
            int left = 0;
            for (int corner = 0; corner < told.corners; corner++) {
                if ((possible >> corner & 1) != 0 && traced(corner, step) == seen) {
                    left++;
                }
            }
            most = Math.max(most, left);
        }
        return most;
    }

    private int possibleForged(int slot) {
        if (!Rows.isSlot(slot) || !told.isThere()) {
            return NO_SUCH;
        }
        if (!rows.isFilled(slot)) {
            return NOTHING;
        }
        if (!rows.holdsPairs(slot, LEAST_COUNTED, MOST_COUNTED, MOST_COUNTED - 1)) {
            return NO_SUCH;
        }
        int possible = 0;
        for (int name = 0; name < told.names; name++) {
            if (agreesWithSniffs(slot, told.loops[name])) {
                possible |= 1 << name;
            }
        }
        return possible;
    }

    private boolean agreesWithSniffs(int slot, int loops) {
        for (int i = 0; i + 1 < rows.length[slot]; i += 2) {
            long counted = rows.numbers[slot][i];
            if (counted <= 0 || loops % counted != rows.numbers[slot][i + 1]) {
                return false;
            }
        }
        return true;
    }

    /** How many of these names stay possible at worst, once their loops are counted so. */
    private int forgedLeft(int possible, int counted) {
        int most = 0;
        for (int over = 0; over < counted; over++) {
            int left = 0;
            for (int name = 0; name < told.names; name++) {
                if ((possible >> name & 1) != 0 && told.loops[name] % counted == over) {
                    left++;
                }
            }
            most = Math.max(most, left);
        }
        return most;
    }

    /**
     * The mean over all orders comes to an equal part of each contract for each of its names: the
     * last of them to come brings it, and each is as likely to be the last.
     */
    private int sixthsOfShare(int name) {
        int sixths = 0;
        for (int contract = 0; contract < told.contracts; contract++) {
            int party = told.party[contract];
            if ((party >> name & 1) != 0) {
                sixths += Integer.bitCount(party) == 2 ? 3 : 2;
            }
        }
        return sixths;
    }

    private int gains(int name, int other, int x, int y) {
        trial.asNow();
        trial.stays = x << name | y << other;
        trial.runAll(0);
        int signed = trial.done[told.steps] & told.contractsOf(name);
        return FOR_A_CONTRACT * Integer.bitCount(signed) - trial.streetsGone(name);
    }

    private boolean canRainTo(int step) {
        return told.hasStep(step) && step < told.steps && step <= MOST_RAIN_STEP;
    }

    private long rainMean(int contracts, int step, int what) {
        trial.asNow();
        trial.begin();
        long below = 1;
        for (int n = 0; n <= step; n++) {
            below *= MOST_ODDS;
        }
        return inLowestTerms(rainSum(trial, contracts, 0, step, 1), below, what);
    }

    /** Each rain from here on, by its weight: how many of these contracts are signed behind the last. */
    private static long rainSum(Day day, int contracts, int n, int last, long weight) {
        if (weight == 0) {
            return 0;
        }
        if (n > last || n > MOST_RAIN_STEP) {
            return weight * Integer.bitCount(day.done[n] & contracts);
        }
        int odds = day.told.odds;
        day.goOn(n, false);
        long dry = rainSum(day, contracts, n + 1, last, weight * (MOST_ODDS - odds));
        day.goOn(n, true);
        return dry + rainSum(day, contracts, n + 1, last, weight * odds);
    }

    private static long inLowestTerms(long above, long below, int what) {
        long common = commonMeasure(above, below);
        if (common <= 0) {
            return NO_SUCH;
        }
        return (what == 0 ? above : below) / common;
    }

    private static long commonMeasure(long above, long below) {
        long a = below;
        long b = above;
        for (int i = 0; i < 200 && b > 0; i++) {
            long rest = a % b;
            a = b;
            b = rest;
        }
        return a;
    }

    private static boolean isSeed(int seed) {
        return seed >= 0 && seed <= MOST_SEED;
    }

    private int rainDrawn(int seed) {
        long x = seed;
        int rain = 0;
        for (int step = 0; step < told.steps; step++) {
            x = (1103515245L * x + 12345L) % 2147483648L;
            if (x / 65536L % 10L < told.odds) {
                rain |= 1 << step;
            }
        }
        return rain;
    }

    private int signedInRain(int rain) {
        trial.asNow();
        trial.runAll(rain);
        return trial.done[told.steps];
    }

    /** The state as told, without what has been done. */
    private static final class Told {
        private int corners;
        private int steps;
        private int law;
        private int odds;
        private int lines;
        private int streets;
        private int wells;
        private int names;
        private int contracts;
        private final int[] streetFrom = new int[MOST_STREETS];
        private final int[] streetTo = new int[MOST_STREETS];
        private final int[] wellInk = new int[MOST_CORNERS];
        private final int[] home = new int[MOST_NAMES];
        private final int[] toldInk = new int[MOST_NAMES];
        private final int[] loops = new int[MOST_NAMES];
        private final int[] walkLength = new int[MOST_NAMES];
        private final int[] walks = new int[MOST_NAMES * MOST_WALK];
        private final int[] party = new int[MOST_CONTRACTS];

        private void makeEmpty() {
            corners = 0;
            steps = 0;
            law = 0;
            odds = 0;
            lines = 0;
            streets = 0;
            wells = 0;
            names = 0;
            contracts = 0;
            Arrays.fill(wellInk, 0);
        }

        private void takeFrom(Told other) {
            corners = other.corners;
            steps = other.steps;
            law = other.law;
            odds = other.odds;
            lines = other.lines;
            streets = other.streets;
            wells = other.wells;
            names = other.names;
            contracts = other.contracts;
            System.arraycopy(other.streetFrom, 0, streetFrom, 0, MOST_STREETS);
            System.arraycopy(other.streetTo, 0, streetTo, 0, MOST_STREETS);
            System.arraycopy(other.wellInk, 0, wellInk, 0, MOST_CORNERS);
            System.arraycopy(other.home, 0, home, 0, MOST_NAMES);
            System.arraycopy(other.toldInk, 0, toldInk, 0, MOST_NAMES);
            System.arraycopy(other.loops, 0, loops, 0, MOST_NAMES);
            System.arraycopy(other.walkLength, 0, walkLength, 0, MOST_NAMES);
            System.arraycopy(other.walks, 0, walks, 0, MOST_NAMES * MOST_WALK);
            System.arraycopy(other.party, 0, party, 0, MOST_CONTRACTS);
        }

        private boolean isThere() {
            return lines > 0;
        }

        private boolean hasCorner(int corner) {
            return corner >= 0 && corner < corners;
        }

        private boolean hasStep(int step) {
            return isThere() && step >= 0 && step <= steps;
        }

        private boolean hasStreet(int street) {
            return street >= 0 && street < streets;
        }

        private boolean hasName(int name) {
            return name >= 0 && name < names;
        }

        private boolean hasContract(int contract) {
            return contract >= 0 && contract < contracts;
        }

        private int contractsOf(int name) {
            int bits = 0;
            for (int contract = 0; contract < contracts; contract++) {
                bits |= (party[contract] >> name & 1) << contract;
            }
            return bits;
        }
    }

    /** What has been done to the state and not been taken back, and what it comes to. */
    private static final class Acts {
        private static final int SEND = 0;
        private static final int CLOSE = 1;

        private int number;
        private int closed;
        private final int[] kind = new int[MOST_ACTS];
        private final int[] whom = new int[MOST_ACTS];
        private final int[] goal = new int[MOST_ACTS];
        private final int[] from = new int[MOST_ACTS];
        private final int[] sentTo = new int[MOST_STEPS * MOST_NAMES];

        private Acts() {
            Arrays.fill(sentTo, NONE);
        }

        private void add(int what, int who, int where, int step) {
            if (number >= MOST_ACTS) {
                return;
            }
            kind[number] = what;
            whom[number] = who;
            goal[number] = where;
            from[number] = step;
            number++;
            takeEffect(number - 1);
        }

        private void removeLast() {
            if (number > 0) {
                number--;
            }
            playAgain();
        }

        private void removeAll() {
            number = 0;
            playAgain();
        }

        /** An act may have covered an earlier one, so that taking it back plays all others again. */
        private void playAgain() {
            closed = 0;
            Arrays.fill(sentTo, NONE);
            for (int i = 0; i < number; i++) {
                takeEffect(i);
            }
        }

        private void takeEffect(int i) {
            if (kind[i] == SEND) {
                sentTo[from[i] * MOST_NAMES + whom[i]] = goal[i];
            } else {
                closed = closed & ~(1 << whom[i]) | goal[i] << whom[i];
            }
        }

        private void takeFrom(Acts other) {
            number = other.number;
            System.arraycopy(other.kind, 0, kind, 0, MOST_ACTS);
            System.arraycopy(other.whom, 0, whom, 0, MOST_ACTS);
            System.arraycopy(other.goal, 0, goal, 0, MOST_ACTS);
            System.arraycopy(other.from, 0, from, 0, MOST_ACTS);
            playAgain();
        }
    }

    /** A state and its acts, kept to go back to. */
    private static final class Image {
        private boolean kept;
        private final Told told = new Told();
        private final Acts acts = new Acts();
    }

    /** Which corners streets join. */
    private static final class Net {
        private final int[] near = new int[MOST_CORNERS];

        private void build(Told told, int closed) {
            Arrays.fill(near, 0);
            for (int street = 0; street < told.streets; street++) {
                if ((closed >> street & 1) == 0) {
                    near[told.streetFrom[street]] |= 1 << told.streetTo[street];
                    near[told.streetTo[street]] |= 1 << told.streetFrom[street];
                }
            }
        }

        private boolean joins(int corner, int other) {
            return other >= 0 && (near[corner] >> other & 1) != 0;
        }

        private int spread(int corners) {
            int wider = corners;
            for (int corner = 0; corner < MOST_CORNERS; corner++) {
                if ((corners >> corner & 1) != 0) {
                    wider |= near[corner];
                }
            }
            return wider;
        }

        private int within(int corner, int streets) {
            int corners = 1 << corner;
            for (int i = 0; i < streets; i++) {
                int wider = spread(corners);
                if (wider == corners) {
                    return corners;
                }
                corners = wider;
            }
            return corners;
        }

        private int distance(int corner, int other) {
            int corners = 1 << corner;
            for (int streets = 0; streets < MOST_CORNERS; streets++) {
                if ((corners >> other & 1) != 0) {
                    return streets;
                }
                corners = spread(corners);
            }
            return NONE;
        }
    }

    /** One run of the state from STEP 0 on: as it is now, or with something in place of it. */
    private static final class Day {
        private final Told told;
        private final Acts acts;
        private final Net net = new Net();
        private final int[] startAt = new int[MOST_NAMES];
        private final int[] startInk = new int[MOST_NAMES];
        private final int[] spot = new int[(MOST_STEPS + 1) * MOST_NAMES];
        private final int[] inkLeft = new int[(MOST_STEPS + 1) * MOST_NAMES];
        private final int[] done = new int[MOST_STEPS + 1];
        private int rule;
        private int closed;
        private int stays;
        private int dug = NONE;

        private Day(Told told, Acts acts) {
            this.told = told;
            this.acts = acts;
        }

        private void asNow() {
            System.arraycopy(told.home, 0, startAt, 0, MOST_NAMES);
            System.arraycopy(told.toldInk, 0, startInk, 0, MOST_NAMES);
            rule = told.law;
            closed = acts.closed;
            stays = 0;
            dug = NONE;
        }

        /** Rain is told by the STEPS from which it falls, as bits; the answer is how many are signed. */
        private int runAll(int rain) {
            begin();
            for (int n = 0; n < told.steps; n++) {
                goOn(n, (rain >> n & 1) != 0);
            }
            return Integer.bitCount(done[told.steps]);
        }

        private void begin() {
            net.build(told, closed);
            for (int name = 0; name < told.names; name++) {
                spot[name] = startAt[name];
                inkLeft[name] = startInk[name];
            }
            done[0] = 0;
            drinkAll(0);
            signAll(0);
        }

        private void goOn(int n, boolean rains) {
            for (int name = 0; name < told.names; name++) {
                int i = n * MOST_NAMES + name;
                int aim = aimOf(name, n);
                boolean moves = !rains && inkLeft[i] > 0 && net.joins(spot[i], aim);
                spot[i + MOST_NAMES] = moves ? aim : spot[i];
                inkLeft[i + MOST_NAMES] = Math.max(0, inkLeft[i] - 1);
            }
            done[n + 1] = done[n];
            drinkAll(n + 1);
            signAll(n + 1);
        }

        /** The CORNER to which a name would go from a STEP; NONE: it would stay anyway. */
        private int aimOf(int name, int n) {
            if ((stays >> name & 1) != 0) {
                return NONE;
            }
            int sent = acts.sentTo[n * MOST_NAMES + name];
            if (sent != NONE) {
                return sent;
            }
            int length = told.walkLength[name];
            return length <= 0 ? NONE : told.walks[name * MOST_WALK + n % length];
        }

        private void drinkAll(int step) {
            for (int name = 0; name < told.names; name++) {
                int i = step * MOST_NAMES + name;
                inkLeft[i] = Math.min(MOST_INK, inkLeft[i] + inkAt(spot[i]));
            }
        }

        private int inkAt(int corner) {
            return told.wellInk[corner] + (corner == dug ? MOST_FEED : 0);
        }

        private void signAll(int step) {
            int usedCorners = 0;
            int signers = 0;
            for (int contract = 0; contract < told.contracts; contract++) {
                int party = told.party[contract];
                boolean isOpen = (done[step] >> contract & 1) == 0;
                int corner = isOpen ? cornerOfAll(party, step) : NONE;
                int awake = corner == NONE ? 0 : namesAwake(step);
                if ((party & ~awake) != 0) {
                    continue;
                }
                boolean hasOthers = (namesAt(corner, step) & awake & ~party) != 0;
                boolean isUsed = (usedCorners >> corner & 1) != 0;
                if (isBarred(hasOthers, isUsed, (party & signers) != 0)) {
                    continue;
                }
                done[step] |= 1 << contract;
                usedCorners |= 1 << corner;
                signers |= party;
                payInk(party, step);
            }
        }

        private boolean isBarred(boolean hasOthers, boolean isUsed, boolean haveSigned) {
            switch (rule) {
                case 1:
                    return hasOthers;
                case 2:
                    return isUsed;
                case 3:
                    return haveSigned;
                default:
                    return false;
            }
        }

        private void payInk(int party, int step) {
            for (int name = 0; name < told.names; name++) {
                inkLeft[step * MOST_NAMES + name] -= party >> name & 1;
            }
        }

        /** NONE if these names are not all at one CORNER. */
        private int cornerOfAll(int party, int step) {
            int corner = NONE;
            for (int name = 0; name < told.names; name++) {
                if ((party >> name & 1) == 0) {
                    continue;
                }
                int its = spot[step * MOST_NAMES + name];
                if (corner != NONE && corner != its) {
                    return NONE;
                }
                corner = its;
            }
            return corner;
        }

        private int namesAwake(int step) {
            int bits = 0;
            for (int name = 0; name < told.names; name++) {
                if (inkLeft[step * MOST_NAMES + name] > 0) {
                    bits |= 1 << name;
                }
            }
            return bits;
        }

        private int namesAt(int corner, int step) {
            int bits = 0;
            for (int name = 0; name < told.names; name++) {
                if (spot[step * MOST_NAMES + name] == corner) {
                    bits |= 1 << name;
                }
            }
            return bits;
        }

        private int firstDry(int names) {
            int all = names & (1 << told.names) - 1;
            for (int step = 0; step <= told.steps; step++) {
                if ((all & ~namesAwake(step)) != 0) {
                    return step;
                }
            }
            return NONE;
        }

        private int leastDry(int step) {
            for (int name = 0; name < told.names; name++) {
                if (inkLeft[step * MOST_NAMES + name] == 0) {
                    return name;
                }
            }
            return NONE;
        }

        private int streetsGone(int name) {
            int streets = 0;
            for (int n = 0; n < told.steps; n++) {
                int i = n * MOST_NAMES + name;
                if (spot[i] != spot[i + MOST_NAMES]) {
                    streets++;
                }
            }
            return streets;
        }

        private int stepsStuck(int name) {
            int steps = 0;
            for (int n = 0; n < told.steps; n++) {
                int i = n * MOST_NAMES + name;
                int aim = aimOf(name, n);
                boolean wouldGo = inkLeft[i] > 0 && aim != NONE && aim != spot[i];
                if (wouldGo && !net.joins(spot[i], aim)) {
                    steps++;
                }
            }
            return steps;
        }

        private int cornersSeen(int name) {
            int corners = 0;
            for (int step = 0; step <= told.steps; step++) {
                corners |= 1 << spot[step * MOST_NAMES + name];
            }
            return corners;
        }

        private int inkDrunk(int name) {
            int drunk = 0;
            int before = startInk[name];
            for (int step = 0; step <= told.steps; step++) {
                int i = step * MOST_NAMES + name;
                drunk += Math.min(MOST_INK, before + inkAt(spot[i])) - before;
                before = Math.max(0, inkLeft[i] - 1);
            }
            return drunk;
        }

        private int inkOfAll(int step) {
            int ink = 0;
            for (int name = 0; name < told.names; name++) {
                ink += inkLeft[step * MOST_NAMES + name];
            }
            return ink;
        }

        private int firstSigned(int contracts) {
            for (int step = 0; step <= told.steps; step++) {
                if ((done[step] & contracts) != 0) {
                    return step;
                }
            }
            return NONE;
        }

        private int firstTogether(int party) {
            for (int step = 0; step <= told.steps; step++) {
                if (cornerOfAll(party, step) != NONE) {
                    return step;
                }
            }
            return NONE;
        }

        private int stepsTogether(int party) {
            int steps = 0;
            for (int step = 0; step <= told.steps; step++) {
                if (cornerOfAll(party, step) != NONE) {
                    steps++;
                }
            }
            return steps;
        }

        private int largestPack() {
            int most = 0;
            for (int step = 0; step <= told.steps; step++) {
                for (int corner = 0; corner < told.corners; corner++) {
                    most = Math.max(most, Integer.bitCount(namesAt(corner, step)));
                }
            }
            return most;
        }

        private int busiestCorner() {
            int best = 0;
            int most = NONE;
            for (int corner = 0; corner < told.corners; corner++) {
                int visits = 0;
                for (int step = 0; step <= told.steps; step++) {
                    visits += Integer.bitCount(namesAt(corner, step));
                }
                if (visits > most) {
                    best = corner;
                    most = visits;
                }
            }
            return best;
        }

        private int namesAlone(int step) {
            int alone = 0;
            for (int name = 0; name < told.names; name++) {
                if (namesAt(spot[step * MOST_NAMES + name], step) == 1 << name) {
                    alone |= 1 << name;
                }
            }
            return alone;
        }
    }

    /** Rows of numbers, one for each SLOT that has one. */
    private static final class Rows {
        private static final int SLOTS = 4;
        private static final int MOST_NUMBERS = 60;

        private final int[] width = new int[SLOTS];
        private final int[] length = new int[SLOTS];
        private final long[][] numbers = new long[SLOTS][MOST_NUMBERS];

        private Rows() {
            Arrays.fill(width, NONE);
        }

        private static boolean isSlot(int slot) {
            return slot >= 0 && slot < SLOTS;
        }

        private boolean isFilled(int slot) {
            return width[slot] != NONE;
        }

        private void make(int slot, int itsWidth, int n) {
            width[slot] = itsWidth;
            length[slot] = n;
            Arrays.fill(numbers[slot], 0L);
        }

        private static long cutTo(int width, long v) {
            switch (width) {
                case 0:
                    return (byte) v;
                case 1:
                    return (short) v;
                case 2:
                    return (int) v;
                default:
                    return v;
            }
        }

        /** Asked by what is left, so that no sum of places wraps around. */
        private boolean holds(int slot, int from, int n) {
            return from >= 0 && n >= 0 && from <= length[slot] - n;
        }

        private boolean holdsPairs(int slot, int leastFirst, int mostFirst, int mostSecond) {
            if (length[slot] % 2 != 0) {
                return false;
            }
            for (int i = 0; i + 1 < length[slot]; i += 2) {
                long first = numbers[slot][i];
                long second = numbers[slot][i + 1];
                if (first < leastFirst || first > mostFirst || second < 0 || second > mostSecond) {
                    return false;
                }
            }
            return true;
        }

        private int howMany() {
            int filled = 0;
            for (int slot = 0; slot < SLOTS; slot++) {
                if (isFilled(slot)) {
                    filled++;
                }
            }
            return filled;
        }
    }

    /** The tape, and how it is read as a state: token by token up to the first fault. */
    private static final class Reader {
        private static final int MOST_BYTES = 900;
        private static final int MISPLACED = 1;
        private static final int OUT_OF_BOUNDS = 2;
        private static final int TOO_MANY = 3;
        private static final int FAR_TOO_LARGE = 1000000;

        private static final int THE_END = 0;
        private static final int WORD = 1;
        private static final int NUMBER = 2;
        private static final int STOP = 3;
        private static final int STRANGE = 4;

        private final int[] tape = new int[MOST_BYTES];
        private int size;
        private int fault;
        private int place = NONE;
        private int kind;
        private int start;
        private int behind;
        private int value;

        private void addNumber(int number) {
            for (int shift = 24; shift >= 0 && size < MOST_BYTES; shift -= 8) {
                tape[size] = number >> shift & 255;
                size++;
            }
        }

        private void readAll(Told into) {
            into.makeEmpty();
            fault = 0;
            place = NONE;
            behind = 0;
            takeToken();
            for (int i = 0; i < MOST_BYTES && fault == 0 && kind != THE_END; i++) {
                readLine(into);
            }
            size = 0;
        }

        private void readLine(Told into) {
            if (into.lines == 0) {
                readHead(into);
            } else if (isWord("street")) {
                readStreet(into);
            } else if (isWord("well")) {
                readWell(into);
            } else if (isWord("name")) {
                readName(into);
            } else if (isWord("contract")) {
                readContract(into);
            } else {
                fail(MISPLACED);
            }
            takeStop();
            into.lines++;
        }

        private void readHead(Told into) {
            takeWord("state");
            takeWord("corners");
            into.corners = takeNumber(1, MOST_CORNERS, 0);
            takeWord("steps");
            into.steps = takeNumber(1, MOST_STEPS, 0);
            takeWord("law");
            into.law = takeNumber(0, MOST_LAW, 0);
            takeWord("odds");
            into.odds = takeNumber(0, MOST_ODDS, 0);
        }

        private void readStreet(Told into) {
            if (into.streets >= MOST_STREETS) {
                fail(TOO_MANY);
                return;
            }
            takeWord("street");
            int from = takeNumber(0, into.corners - 1, 0);
            takeWord("to");
            into.streetFrom[into.streets] = from;
            into.streetTo[into.streets] = takeNumber(0, into.corners - 1, 1 << from);
            into.streets++;
        }

        private void readWell(Told into) {
            if (into.wells >= MOST_WELLS) {
                fail(TOO_MANY);
                return;
            }
            takeWord("well");
            int corner = takeNumber(0, into.corners - 1, 0);
            takeWord("feeds");
            into.wellInk[corner] += takeNumber(1, MOST_FEED, 0);
            into.wells++;
        }

        private void readName(Told into) {
            if (into.names >= MOST_NAMES) {
                fail(TOO_MANY);
                return;
            }
            int name = into.names;
            takeWord("name");
            takeWord("at");
            into.home[name] = takeNumber(0, into.corners - 1, 0);
            takeWord("ink");
            into.toldInk[name] = takeNumber(0, MOST_TOLD_INK, 0);
            takeWord("loops");
            into.loops[name] = takeNumber(0, MOST_LOOPS, 0);
            readWalk(into, name);
            into.names++;
        }

        private void readWalk(Told into, int name) {
            into.walkLength[name] = 0;
            for (int i = 0; i < MOST_WALK && isWord("walks"); i++) {
                takeWord("walks");
                into.walks[name * MOST_WALK + i] = takeNumber(0, into.corners - 1, 0);
                into.walkLength[name] = i + 1;
            }
            if (isWord("walks")) {
                fail(TOO_MANY);
            }
        }

        private void readContract(Told into) {
            if (into.contracts >= MOST_CONTRACTS) {
                fail(TOO_MANY);
                return;
            }
            takeWord("contract");
            int party = 1 << takeNumber(0, into.names - 1, 0);
            party |= 1 << takeNumber(0, into.names - 1, party);
            if (kind == NUMBER) {
                party |= 1 << takeNumber(0, into.names - 1, party);
            }
            into.party[into.contracts] = party;
            into.contracts++;
        }

        /** Only the first fault counts: what is read behind it is not kept. */
        private void fail(int what) {
            if (fault == 0) {
                fault = what;
                place = start;
            }
        }

        private void takeWord(String word) {
            if (isWord(word)) {
                takeToken();
            } else {
                fail(MISPLACED);
            }
        }

        private void takeStop() {
            if (fault == 0 && kind == STOP) {
                takeToken();
            } else {
                fail(MISPLACED);
            }
        }

        /** A number that is none of those barred, which are told as bits of 0 to 7. */
        private int takeNumber(int least, int most, int barred) {
            if (fault != 0) {
                return 0;
            }
            if (kind != NUMBER) {
                fail(MISPLACED);
                return 0;
            }
            int number = value;
            boolean isBarred = number < MOST_CORNERS && (barred >> number & 1) != 0;
            if (number < least || number > most || isBarred) {
                fail(OUT_OF_BOUNDS);
                return 0;
            }
            takeToken();
            return number;
        }

        private boolean isWord(String word) {
            if (fault != 0 || kind != WORD || behind - start != word.length()) {
                return false;
            }
            for (int i = 0; i < word.length(); i++) {
                if (tape[start + i] != word.charAt(i)) {
                    return false;
                }
            }
            return true;
        }

        private void takeToken() {
            start = behind;
            while (start < size && (tape[start] == 32 || tape[start] == 10)) {
                start++;
            }
            kind = start < size ? kindOf(tape[start]) : THE_END;
            behind = start < size ? start + 1 : start;
            if (kind == WORD || kind == NUMBER) {
                while (behind < size && kindOf(tape[behind]) == kind) {
                    behind++;
                }
            }
            value = 0;
            for (int i = start; i < behind && kind == NUMBER; i++) {
                value = Math.min(FAR_TOO_LARGE, value * 10 + tape[i] - '0');
            }
        }

        private static int kindOf(int sign) {
            if (sign >= 'a' && sign <= 'z') {
                return WORD;
            }
            if (sign >= '0' && sign <= '9') {
                return NUMBER;
            }
            return sign == ';' ? STOP : STRANGE;
        }
    }
}
