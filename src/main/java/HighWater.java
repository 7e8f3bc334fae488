import java.util.Arrays;

/**
 * Up to six islands in a bay that belong, behind each of twelve tides, to whoever is on them alone.
 * The words in capitals are those of the document (../shared/DOC.md).
 */
public final class HighWater {
    public static final int NONE = -1, BAD = -2, STATE = -3, FULL = -4;
    public static final long NO = -4611686018427387904L;

    private static final int NO_SUCH = -5, NOT_SO = -7;
    private static final int NOTHING_THERE = -11, OUTSIDE = -12, UNLIKE = -13, BELOW_NOTHING = -14;
    private static final int FAULT_AT = -100;

    private static final int TIDES = 12, ISLANDS = 6, PEOPLE = 4, TEXTS = 6, SHEETS = 4;
    private static final int CELLS = 40, TAPE_BYTES = 160;
    private static final int SHORE = -1, NOBODY = -1, MISSING = -1, INTS = 2;
    private static final int KINDS = 6, NUMBERS_OF_AN_ISLAND = 4;
    private static final int WORTH = 0, COSTS = 1, STORM = 2, PARTS = 3;
    private static final int NAMES = 6;
    private static final int MOST_WORTH = 9999, MOST_MUCH = 99999, MOST_SEED = 99999, MOST_SEEDS = 40;
    private static final long LOT_TIMES = 48271L, LOT_MODULO = 2147483647L;
    private static final String FIRST_LAW = "worth told ; costs far ; storm height * 2 ;";

    private final Bay now = new Bay();
    private final Bay kept = new Bay();
    private boolean isKept = false;
    private final Island[] islands = new Island[ISLANDS];
    private final Text[] texts = new Text[TEXTS];
    private int textCount = 0;
    private final Tape tape = new Tape();
    private final Sheet[] sheets = new Sheet[SHEETS];

    // Rows that calls fill anew, made once since what a run makes is counted.
    private final Top top = new Top();
    private final int[] names = new int[NAMES];
    private final int[] stack = new int[TAPE_BYTES];
    private final int[] storms = new int[PEOPLE];
    private final int[] shares = new int[PEOPLE];

    public HighWater() {
        Arrays.fill(now.highs, 5);
        for (int s = 0; s < SHEETS; s++) {
            sheets[s] = new Sheet();
        }
        for (int k = 0; k < FIRST_LAW.length(); k++) {
            tape.append(FIRST_LAW.charAt(k));
        }
        texts[0] = tape.readText();
        textCount = 1;
        tape.clear();
    }

    // ---- tides, people, the law

    public int tide(int t, int v) {
        if (!isTide(t)) {
            return NO_SUCH;
        }
        if (!isWithin(v, 9)) {
            return NOT_SO;
        }
        int was = now.highs[t];
        now.highs[t] = v;
        return was;
    }

    public int height(int t) {
        return isTide(t) ? now.highs[t] : NO_SUCH;
    }

    public int come() {
        if (now.people >= PEOPLE) {
            return FULL;
        }
        Arrays.fill(now.places[now.people], SHORE);
        now.people++;
        return now.people - 1;
    }

    public int go(int p, int t, int i) {
        if (!isOne(p) || !isTide(t)) {
            return NO_SUCH;
        }
        if (i != SHORE && !isIsland(i)) {
            return NOT_SO;
        }
        int was = now.places[p][t];
        now.places[p][t] = i;
        return was;
    }

    public int at(int p, int t) {
        return isOne(p) && isTide(t) ? now.places[p][t] : NO_SUCH;
    }

    public int count(int what) {
        switch (what) {
            case 0: return now.islands;
            case 1: return now.people;
            case 2: return textCount;
            case 3: return now.law;
            case 4: return tape.size;
            default: return BAD;
        }
    }

    public int feed(int n, int a, int b, int c, int d, int e) {
        if (n < 1 || n > 5 || !isByte(a) || !isByte(b) || !isByte(c) || !isByte(d) || !isByte(e)) {
            return BAD;
        }
        if (tape.size + n > TAPE_BYTES) {
            return FULL;
        }
        for (int k = 0; k < n; k++) {
            tape.append(k == 0 ? a : k == 1 ? b : k == 2 ? c : k == 3 ? d : e);
        }
        return tape.size;
    }

    public int text() {
        if (textCount >= TEXTS) {
            return FULL;
        }
        Text read = tape.readText();
        tape.clear();
        if (read == null) {
            return FAULT_AT - tape.fault;
        }
        texts[textCount] = read;
        textCount++;
        return textCount - 1;
    }

    public int force(int t) {
        if (textAt(t) == null) {
            return BAD;
        }
        int was = now.law;
        now.law = t;
        return was;
    }

    public int asks(int part, int told, int heightMore, int far, int tideNumber) {
        if (!isWithin(part, PARTS - 1) || !isWithin(told, 99) || !isWithin(heightMore, 99)
                || !isWithin(far, 9) || !isWithin(tideNumber, 119)) {
            return BAD;
        }
        name(told, heightMore / 10, heightMore % 10, far, tideNumber / 10, tideNumber % 10);
        return saysOf(law(), part);
    }

    // ---- islands

    public int island(int kind, int told, int high, int more) {
        if (!isWithin(kind, KINDS - 1) || !isWithin(told, 99) || !isWithin(high, 9) || !isWithin(more, 9)) {
            return BAD;
        }
        if (now.islands >= ISLANDS) {
            return FULL;
        }
        islands[now.islands] = newIsland(kind, told, high, more);
        now.islands++;
        return now.islands - 1;
    }

    public int told(int i, int what) {
        Island island = islandAt(i);
        if (island == null) {
            return NO_SUCH;
        }
        switch (what) {
            case 0: return island.kind;
            case 1: return island.told;
            case 2: return island.rises;
            case 3: return island.more;
            default: return NOT_SO;
        }
    }

    public int then(int i, int t, int what) {
        if (!isIsland(i) || !isTide(t)) {
            return NO_SUCH;
        }
        if (!isWithin(what, 2)) {
            return NOT_SO;
        }
        lookAt(t, law());
        if (what == 0) {
            return top.worths[i];
        }
        return what == 1 ? (top.stands[i] ? 1 : 0) : top.ones[i];
    }

    public int joined(int a, int b) {
        if (!isIsland(a) || !isIsland(b)) {
            return NO_SUCH;
        }
        int bits = 0;
        for (int t = 0; t < TIDES; t++) {
            lookAt(t, law());
            if ((top.ones[a] >> b & 1) == 1) {
                bits |= 1 << t;
            }
        }
        return bits;
    }

    // ---- whose it is

    public int whose(int i, int t) {
        if (!isIsland(i) || !isTide(t)) {
            return NO_SUCH;
        }
        lookAt(t, law());
        return top.ownerOf(i);
    }

    public int gain(int p, int t) {
        if (!isOne(p) || !isTide(t)) {
            return NO_SUCH;
        }
        lookAt(t, law());
        return top.gainOf(p);
    }

    public int costs(int p, int t) {
        return isOne(p) && isTide(t) ? costOf(p, t, now.places[p][t]) : NO_SUCH;
    }

    public int year(int p, int what) {
        if (!isOne(p)) {
            return NO_SUCH;
        }
        if (!isWithin(what, 2)) {
            return NOT_SO;
        }
        int sum = 0;
        for (int t = 0; t < TIDES; t++) {
            lookAt(t, law());
            int gained = top.gainOf(p);
            if (what == 0) {
                sum += gained;
            } else if (what == 1) {
                sum += costOf(p, t, now.places[p][t]);
            } else if (gained > 0) {
                sum++;
            }
        }
        return sum;
    }

    public int best(int p, int t, int what) {
        if (!isOne(p) || !isTide(t)) {
            return NO_SUCH;
        }
        if (!isWithin(what, 1)) {
            return NOT_SO;
        }
        lookWithCosts(t);
        int place = top.bestPlaceOf(p);
        return what == 0 ? place : top.leftAt(p, place);
    }

    public int wise(int p) {
        if (!isOne(p)) {
            return NO_SUCH;
        }
        int sum = 0;
        for (int t = 0; t < TIDES; t++) {
            lookWithCosts(t);
            int place = top.bestPlaceOf(p);
            sum += top.leftAt(p, place);
            now.places[p][t] = place;
        }
        return sum;
    }

    public int rest(int t) {
        if (!isTide(t)) {
            return NO_SUCH;
        }
        lookWithCosts(t);
        return top.isAtRest() ? 1 : 0;
    }

    public int ways(int t, int what) {
        if (!isTide(t)) {
            return NO_SUCH;
        }
        if (!isWithin(what, 1)) {
            return NOT_SO;
        }
        lookWithCosts(t);
        int all = everybody();
        int howMany = 0;
        int first = -1;
        int ways = top.firstWay(all);
        for (int k = 0; k < ways; k++) {
            if (top.isAtRest()) {
                howMany++;
                first = first < 0 ? top.digitsOf(all) : first;
            }
            top.nextWay(all);
        }
        return what == 0 ? howMany : first;
    }

    // ---- families, spoiling, ransom

    public int family(int set, int t, int what) {
        if (set < 0 || set > everybody() || !isTide(t)) {
            return NO_SUCH;
        }
        if (!isWithin(what, 1)) {
            return NOT_SO;
        }
        lookWithCosts(t);
        int ways = top.firstWay(set);
        int most = top.leftOfAll(set);
        int digits = top.digitsOf(set);
        for (int k = 1; k < ways; k++) {
            top.nextWay(set);
            int left = top.leftOfAll(set);
            if (left > most) {
                most = left;
                digits = top.digitsOf(set);
            }
        }
        return what == 0 ? most : digits;
    }

    public int spoil(int p, int t, int what) {
        if (!isOne(p) || !isTide(t)) {
            return NO_SUCH;
        }
        if (!isWithin(what, 1)) {
            return NOT_SO;
        }
        lookAt(t, law());
        top.put(p, SHORE);
        int place = SHORE;
        int least = top.gainOfOthers(p);
        for (int i = 0; i < now.islands; i++) {
            top.put(p, i);
            int gained = top.gainOfOthers(p);
            if (gained < least) {
                least = gained;
                place = i;
            }
        }
        return what == 0 ? place : least;
    }

    public int ransom(int p, int other, int t) {
        if (!isOne(p) || !isOne(other) || p == other || !isTide(t)) {
            return NO_SUCH;
        }
        lookAt(t, law());
        int gained = top.gainOf(p);
        top.put(other, SHORE);
        return top.gainOf(p) - gained;
    }

    // ---- parting, dear tides, holding

    public int share(int p, int t, int from, int turned) {
        if (!isOne(p) || !isOne(from) || !isTide(t)) {
            return NO_SUCH;
        }
        if (!isWithin(turned, 1)) {
            return NOT_SO;
        }
        partIslands(t, from, turned == 1);
        return shares[p];
    }

    public int unfair(int t, int from, int turned) {
        if (!isOne(from) || !isTide(t)) {
            return NO_SUCH;
        }
        if (!isWithin(turned, 1)) {
            return NOT_SO;
        }
        partIslands(t, from, turned == 1);
        int least = shares[0];
        int most = shares[0];
        for (int p = 1; p < now.people; p++) {
            least = Math.min(least, shares[p]);
            most = Math.max(most, shares[p]);
        }
        return most - least;
    }

    public int dear(int what) {
        if (!isWithin(what, 3)) {
            return BAD;
        }
        int first = 0;
        int most = -1;
        for (int t = 0; t < TIDES; t++) {
            lookAt(t, law());
            int sum = top.worthOfStanding(what >= 2);
            if (sum > most) {
                most = sum;
                first = t;
            }
        }
        return what % 2 == 0 ? first : most;
    }

    public int holds(int p, int i, int what) {
        if (!isOne(p) || !isIsland(i)) {
            return NO_SUCH;
        }
        if (!isWithin(what, 1)) {
            return NOT_SO;
        }
        int run = 0;
        int most = 0;
        int first = -1;
        for (int t = 0; t < TIDES; t++) {
            lookAt(t, law());
            run = top.ownerOf(i) == p ? run + 1 : 0;
            if (run > most) {
                most = run;
                first = t + 1 - run;
            }
        }
        return what == 0 ? most : first;
    }

    // ---- told owners

    public int judge(int s, int t) {
        int refusal = refusalOfOwners(s);
        if (refusal != 0) {
            return refusal;
        }
        if (!isTide(t)) {
            return NO_SUCH;
        }
        lookAt(t, law());
        return firstOtherwise(sheets[s]);
    }

    public int when(int s) {
        int refusal = refusalOfOwners(s);
        if (refusal != 0) {
            return refusal;
        }
        int bits = 0;
        for (int t = 0; t < TIDES; t++) {
            lookAt(t, law());
            if (firstOtherwise(sheets[s]) == NONE) {
                bits |= 1 << t;
            }
        }
        return bits;
    }

    public int were(int s, int t, int who, int what) {
        int refusal = refusalOfOwners(s);
        if (refusal != 0) {
            return refusal;
        }
        if (!isTide(t) || !isOne(who)) {
            return NO_SUCH;
        }
        if (!isWithin(what, 1)) {
            return NOT_SO;
        }
        lookAt(t, law());
        int all = everybody();
        int howMany = 0;
        int places = 0;
        int ways = top.firstWay(all);
        for (int k = 0; k < ways; k++) {
            if (firstOtherwise(sheets[s]) == NONE) {
                howMany++;
                places |= 1 << top.spots[who] + 1;
            }
            top.nextWay(all);
        }
        return what == 0 ? howMany : places;
    }

    public int film(int s, int t) {
        if (!isSheet(s)) {
            return BAD;
        }
        if (!isTide(t)) {
            return NO_SUCH;
        }
        lookAt(t, law());
        Sheet sheet = sheets[s];
        sheet.become(INTS, now.islands);
        for (int i = 0; i < now.islands; i++) {
            sheet.put(i, top.ownerOf(i));
        }
        return now.islands;
    }

    public int laws(int p, int t, int much) {
        if (!isOne(p) || !isTide(t)) {
            return NO_SUCH;
        }
        if (!isWithin(much, MOST_MUCH)) {
            return NOT_SO;
        }
        int bits = 0;
        for (int k = 0; k < textCount; k++) {
            lookAt(t, textAt(k));
            if (top.gainOf(p) == much) {
                bits |= 1 << k;
            }
        }
        return bits;
    }

    // ---- storms by lot

    public int drawn(int seed, int p, int t, int what) {
        if (!isOne(p) || !isTide(t)) {
            return NO_SUCH;
        }
        if (!isWithin(seed, MOST_SEED) || !isWithin(what, 1)) {
            return NOT_SO;
        }
        lookForStorms(t);
        return what == 0 ? keptBy(seed) : gainBy(seed, p, t);
    }

    public long mean(int p, int t, int seed, int seeds, int part) {
        if (!isOne(p) || !isTide(t) || !isWithin(seed, MOST_SEED) || seeds < 1 || seeds > MOST_SEEDS
                || !isWithin(part, 1)) {
            return NO;
        }
        lookForStorms(t);
        long sum = 0;
        for (int k = 0; k < seeds; k++) {
            sum += gainBy(seed + k, p, t);
        }
        long divisor = greatestDivisor(sum, seeds);
        if (divisor == 0) {
            return NO;
        }
        return part == 0 ? sum / divisor : seeds / divisor;
    }

    public int image() {
        kept.become(now);
        isKept = true;
        return now.islands;
    }

    public int back() {
        if (!isKept) {
            return STATE;
        }
        now.become(kept);
        return now.islands;
    }

    // ---- the host

    public int sheet(int s, int sort, int n) {
        if (!isSheet(s) || sort < MISSING || sort > INTS || sort != MISSING && n > CELLS) {
            return BAD;
        }
        if (sort != MISSING && n < 0) {
            return BELOW_NOTHING;
        }
        sheets[s].become(sort, sort == MISSING ? 0 : n);
        return 1;
    }

    public int cell(int s, int i, int v) {
        int refusal = refusalOfSheet(s);
        if (refusal != 0) {
            return refusal;
        }
        if (i < 0 || i >= sheets[s].size) {
            return OUTSIDE;
        }
        sheets[s].put(i, v);
        return 1;
    }

    public int copy(int s, int i, int other, int j, int n) {
        if (!isSheet(s) || !isSheet(other)) {
            return BAD;
        }
        Sheet from = sheets[s];
        Sheet to = sheets[other];
        if (from.sort == MISSING || to.sort == MISSING) {
            return NOTHING_THERE;
        }
        if (from.sort != to.sort) {
            return UNLIKE;
        }
        if (!from.hasRoom(i, n) || !to.hasRoom(j, n)) {
            return OUTSIDE;
        }
        System.arraycopy(from.cells, i, to.cells, j, n);
        return n;
    }

    public int islandsBy(int s, int sort, int at, int n) {
        if (!isSheet(s) || !isWithin(sort, INTS) || !isWithin(n, ISLANDS)) {
            return BAD;
        }
        Sheet sheet = sheets[s];
        if (sheet.sort == MISSING) {
            return NOTHING_THERE;
        }
        if (sheet.sort != sort) {
            return UNLIKE;
        }
        int came = 0;
        for (int k = 0; k < n; k++) {
            int from = at + NUMBERS_OF_AN_ISLAND * k;
            // A place that wrapped to below 0 is outside, as is one that never was inside.
            if (at < 0 || !sheet.hasRoom(from, NUMBERS_OF_AN_ISLAND)) {
                return OUTSIDE;
            }
            int[] cells = sheet.cells;
            if (island(cells[from], cells[from + 1], cells[from + 2], cells[from + 3]) >= 0) {
                came++;
            }
        }
        return came;
    }

    public int taken(int i, int kind) {
        if (!isWithin(kind, KINDS)) {
            return BAD;
        }
        if (!isWithin(i, TIDES + ISLANDS - 1)) {
            return OUTSIDE;
        }
        if (i < TIDES) {
            if (now.highs[i] == 0) {
                return NOTHING_THERE;
            }
            return kind == KINDS ? now.highs[i] : UNLIKE;
        }
        Island island = islandAt(i - TIDES);
        if (island == null) {
            return NOTHING_THERE;
        }
        return isOfKind(island, kind) ? i - TIDES : UNLIKE;
    }

    // ---- what numbers are as told

    private static boolean isWithin(int v, int most) {
        return v >= 0 && v <= most;
    }

    private static boolean isByte(int v) {
        return isWithin(v, 255);
    }

    private static boolean isTide(int t) {
        return isWithin(t, TIDES - 1);
    }

    private static boolean isSheet(int s) {
        return isWithin(s, SHEETS - 1);
    }

    private boolean isOne(int p) {
        return p >= 0 && p < now.people;
    }

    private boolean isIsland(int i) {
        return i >= 0 && i < now.islands;
    }

    private int everybody() {
        return (1 << now.people) - 1;
    }

    private Island islandAt(int i) {
        return isIsland(i) ? islands[i] : null;
    }

    private Text textAt(int k) {
        return k >= 0 && k < textCount ? texts[k] : null;
    }

    private Text law() {
        return textAt(now.law);
    }

    /** 0, if the SHEET is there. */
    private int refusalOfSheet(int s) {
        if (!isSheet(s)) {
            return BAD;
        }
        return sheets[s].sort == MISSING ? NOTHING_THERE : 0;
    }

    /** 0, if the SHEET can tell whose each of the ISLANDS is. */
    private int refusalOfOwners(int s) {
        int refusal = refusalOfSheet(s);
        if (refusal != 0) {
            return refusal;
        }
        return sheets[s].size == now.islands ? 0 : BAD;
    }

    // ---- what THE LAW says

    private void name(int told, int height, int more, int far, int tide, int number) {
        names[0] = told;
        names[1] = height;
        names[2] = more;
        names[3] = far;
        names[4] = tide;
        names[5] = number;
    }

    /** What a part of a TEXT says of what is named now, within its bounds. */
    private int saysOf(Text text, int part) {
        int said = text == null ? 0 : text.valueOf(part, names, stack);
        return Math.max(0, Math.min(said, part == STORM ? 100 : 99));
    }

    private int worthUnder(Text law, int i, int t) {
        Island island = islandAt(i);
        if (island == null) {
            return 0;
        }
        name(island.told, now.highs[t], island.more, 0, t, i);
        int worth = island.worthAt(saysOf(law, WORTH), t);
        return Math.max(0, Math.min(worth, MOST_WORTH));
    }

    private int costOf(int p, int t, int place) {
        int from = t == 0 ? SHORE : now.places[p][t - 1];
        if (place == SHORE || place == from) {
            return 0;
        }
        int far = from == SHORE ? place + 1 : Math.abs(place - from);
        name(0, now.highs[t], 0, far, t, place);
        return saysOf(law(), COSTS);
    }

    private int stormOf(int p, int t) {
        int place = now.places[p][t];
        if (place == SHORE) {
            return 0;
        }
        name(0, now.highs[t], 0, 0, t, place);
        return saysOf(law(), STORM);
    }

    // ---- looking at the top of a TIDE

    private void lookAt(int t, Text law) {
        top.clear(now.islands, now.people);
        for (int i = 0; i < now.islands; i++) {
            Island island = islandAt(i);
            top.worths[i] = worthUnder(law, i, t);
            top.stands[i] = island != null && island.standsAt(now.highs[t]);
        }
        for (int i = 0; i < now.islands; i++) {
            Island island = islandAt(i);
            int other = island == null ? NONE : island.joinsAt(now.highs[t]);
            if (isIsland(other)) {
                top.unite(i, other);
            }
        }
        top.sumWholes();
        for (int p = 0; p < now.people; p++) {
            top.put(p, now.places[p][t]);
        }
    }

    private void lookWithCosts(int t) {
        lookAt(t, law());
        for (int p = 0; p < now.people; p++) {
            for (int i = 0; i < now.islands; i++) {
                top.fares[p][i] = costOf(p, t, i);
            }
        }
    }

    private void lookForStorms(int t) {
        lookAt(t, law());
        for (int p = 0; p < now.people; p++) {
            storms[p] = stormOf(p, t);
        }
    }

    // ---- storms, parting, told owners

    /** Who is KEPT by a SEED (bits); the storms are those last looked for. */
    private int keptBy(int seed) {
        int bits = 0;
        long lot = seed + 1L;
        for (int p = 0; p < now.people; p++) {
            lot = lot * LOT_TIMES % LOT_MODULO;
            if (lot % 100 < storms[p]) {
                bits |= 1 << p;
            }
        }
        return bits;
    }

    private int gainBy(int seed, int p, int t) {
        int bits = keptBy(seed);
        for (int q = 0; q < now.people; q++) {
            top.put(q, (bits >> q & 1) == 1 ? SHORE : now.places[q][t]);
        }
        return top.gainOf(p);
    }

    private static long greatestDivisor(long a, long b) {
        // Sums and counts of seeds are far below 2 to the 32: some fifty steps are the most.
        for (int k = 0; k < 100 && b != 0; k++) {
            long rest = a % b;
            a = b;
            b = rest;
        }
        return a;
    }

    private void partIslands(int t, int from, boolean turned) {
        lookAt(t, law());
        Arrays.fill(shares, 0);
        int people = now.people;
        int gone = 0;
        for (int turn = 0; turn < ISLANDS && people > 0; turn++) {
            int next = top.dearestBut(gone);
            if (next == NONE) {
                break;
            }
            boolean isBackwards = turned && turn / people % 2 == 1;
            int step = isBackwards ? people - 1 - turn % people : turn % people;
            shares[(from + step) % people] += top.worths[next];
            gone |= 1 << next;
        }
    }

    /** The first ISLAND that is not whose the SHEET tells, at the TIDE last looked at. */
    private int firstOtherwise(Sheet sheet) {
        for (int i = 0; i < now.islands; i++) {
            if (sheet.cells[i] != top.ownerOf(i)) {
                return i;
            }
        }
        return NONE;
    }

    // ---- KINDS

    private static Island newIsland(int kind, int told, int rises, int more) {
        switch (kind) {
            case 1: return new Hay(kind, told, rises, more);
            case 2: return new Low(kind, told, rises, more);
            case 3: return new Well(kind, told, rises, more);
            case 4: return new Rock(kind, told, rises, more);
            case 5: return new Barred(kind, told, rises, more);
            default: return new Island(kind, told, rises, more);
        }
    }

    private static boolean isOfKind(Island island, int kind) {
        switch (kind) {
            case 0: return true;
            case 1: return island instanceof Hay;
            case 2: return island instanceof Low;
            case 3: return island instanceof Well;
            case 4: return island instanceof Rock;
            case 5: return island instanceof Barred;
            default: return false;
        }
    }

    private static class Island {
        final int kind;
        final int told;
        final int rises;
        final int more;

        Island(int kind, int told, int rises, int more) {
            this.kind = kind;
            this.told = told;
            this.rises = rises;
            this.more = more;
        }

        boolean standsAt(int high) {
            return true;
        }

        int worthAt(int said, int t) {
            return said;
        }

        /** The number of the ISLAND that it JOINS, which perhaps is none; NONE. */
        int joinsAt(int high) {
            return NONE;
        }
    }

    private static class Hay extends Island {
        Hay(int kind, int told, int rises, int more) {
            super(kind, told, rises, more);
        }

        int worthAt(int said, int t) {
            return said + more * t;
        }
    }

    private static final class Well extends Hay {
        Well(int kind, int told, int rises, int more) {
            super(kind, told, rises, more);
        }

        int worthAt(int said, int t) {
            return 2 * super.worthAt(said, t) + 1;
        }
    }

    private static class Low extends Island {
        Low(int kind, int told, int rises, int more) {
            super(kind, told, rises, more);
        }

        boolean standsAt(int high) {
            return high <= rises;
        }
    }

    private static final class Rock extends Low {
        Rock(int kind, int told, int rises, int more) {
            super(kind, told, rises, more);
        }

        int worthAt(int said, int t) {
            return t < more ? super.worthAt(said, t) + 5 : 0;
        }
    }

    private static final class Barred extends Island {
        Barred(int kind, int told, int rises, int more) {
            super(kind, told, rises, more);
        }

        int joinsAt(int high) {
            return high < rises ? more % ISLANDS : NONE;
        }
    }

    /** What AN IMAGE keeps. ISLANDS themselves never change: those behind as many as there are, are none. */
    private static final class Bay {
        final int[] highs = new int[TIDES];
        final int[][] places = new int[PEOPLE][TIDES];
        int people = 0;
        int islands = 0;
        int law = 0;

        void become(Bay other) {
            System.arraycopy(other.highs, 0, highs, 0, TIDES);
            for (int p = 0; p < PEOPLE; p++) {
                System.arraycopy(other.places[p], 0, places[p], 0, TIDES);
            }
            people = other.people;
            islands = other.islands;
            law = other.law;
        }
    }

    private static final class Sheet {
        final int[] cells = new int[CELLS];
        int sort = MISSING;
        int size = 0;

        void become(int newSort, int newSize) {
            sort = newSort;
            size = newSize;
            Arrays.fill(cells, 0);
        }

        void put(int i, int v) {
            if (i >= 0 && i < size) {
                cells[i] = sort == 0 ? (byte) v : sort == 1 ? (short) v : v;
            }
        }

        boolean hasRoom(int from, int n) {
            return n >= 0 && from >= 0 && from <= size && n <= size - from;
        }
    }

    /**
     * The top of one TIDE: ISLANDS as they stand then, and a way to be of all PEOPLE that can be tried out.
     * ISLANDS that are ONE share a root, the first of them.
     */
    private static final class Top {
        final int[] worths = new int[ISLANDS];
        final boolean[] stands = new boolean[ISLANDS];
        final int[] ones = new int[ISLANDS];
        final int[] spots = new int[PEOPLE];
        final int[][] fares = new int[PEOPLE][ISLANDS];
        /** By root: WORTH of all that STAND. */
        private final int[] wholes = new int[ISLANDS];
        /** By root: how many are THERE. */
        private final int[] crowds = new int[ISLANDS];
        private int islands = 0;
        private int people = 0;

        void clear(int islandCount, int peopleCount) {
            islands = islandCount;
            people = peopleCount;
            for (int i = 0; i < ISLANDS; i++) {
                ones[i] = 1 << i;
                wholes[i] = 0;
                crowds[i] = 0;
            }
            Arrays.fill(spots, SHORE);
        }

        void unite(int a, int b) {
            int both = ones[a] | ones[b];
            for (int i = 0; i < ISLANDS; i++) {
                if ((both >> i & 1) == 1) {
                    ones[i] = both;
                }
            }
        }

        void sumWholes() {
            for (int i = 0; i < islands; i++) {
                if (stands[i]) {
                    wholes[rootOf(i)] += worths[i];
                }
            }
        }

        private int rootOf(int i) {
            // Never beyond i, whose own bit is always among its ones.
            return Math.min(i, Integer.numberOfTrailingZeros(ones[i]));
        }

        /** The root of what one is THERE on; NONE. */
        private int rootUnder(int p) {
            int place = spots[p];
            return place >= 0 && place < islands && stands[place] ? rootOf(place) : NONE;
        }

        void put(int p, int place) {
            int leaves = rootUnder(p);
            if (leaves != NONE) {
                crowds[leaves]--;
            }
            spots[p] = place;
            int enters = rootUnder(p);
            if (enters != NONE) {
                crowds[enters]++;
            }
        }

        int ownerOf(int i) {
            int root = rootOf(i);
            if (crowds[root] != 1) {
                return NOBODY;
            }
            for (int p = 0; p < people; p++) {
                if (rootUnder(p) == root) {
                    return p;
                }
            }
            return NOBODY;
        }

        int gainOf(int p) {
            return gainAt(p, spots[p]);
        }

        /** GAIN of one, were this one there, and all others where they are. */
        private int gainAt(int p, int place) {
            if (place < 0 || place >= islands || !stands[place]) {
                return 0;
            }
            int root = rootOf(place);
            int others = crowds[root] - (rootUnder(p) == root ? 1 : 0);
            return others == 0 ? wholes[root] : 0;
        }

        int gainOfOthers(int p) {
            int sum = 0;
            for (int q = 0; q < people; q++) {
                if (q != p) {
                    sum += gainOf(q);
                }
            }
            return sum;
        }

        int leftAt(int p, int place) {
            if (place < 0 || place >= islands) {
                return 0;
            }
            return gainAt(p, place) - fares[p][place];
        }

        int leftOfAll(int set) {
            int sum = 0;
            for (int p = 0; p < people; p++) {
                if ((set >> p & 1) == 1) {
                    sum += leftAt(p, spots[p]);
                }
            }
            return sum;
        }

        int bestPlaceOf(int p) {
            int place = SHORE;
            int most = 0;
            for (int i = 0; i < islands; i++) {
                int left = leftAt(p, i);
                if (left > most) {
                    most = left;
                    place = i;
                }
            }
            return place;
        }

        boolean isAtRest() {
            for (int p = 0; p < people; p++) {
                if (leftAt(p, spots[p]) < leftAt(p, bestPlaceOf(p))) {
                    return false;
                }
            }
            return true;
        }

        /** WORTH of all that STAND, or of those of them that are nobody's. */
        int worthOfStanding(boolean nobodys) {
            int sum = 0;
            for (int i = 0; i < islands; i++) {
                if (stands[i] && (!nobodys || ownerOf(i) == NOBODY)) {
                    sum += worths[i];
                }
            }
            return sum;
        }

        /** What STANDS of most WORTH, but for some (bits); NONE. */
        int dearestBut(int gone) {
            int dearest = NONE;
            for (int i = 0; i < islands; i++) {
                if (stands[i] && (gone >> i & 1) == 0 && (dearest == NONE || worths[i] > worths[dearest])) {
                    dearest = i;
                }
            }
            return dearest;
        }

        /** All of the set go to the SHORE: how many WAYS there are for them. */
        int firstWay(int set) {
            int ways = 1;
            for (int p = 0; p < people; p++) {
                if ((set >> p & 1) == 1) {
                    put(p, SHORE);
                    ways *= islands + 1;
                }
            }
            return ways;
        }

        /** The set goes on to the next WAY by digits; behind the last one comes the first. */
        void nextWay(int set) {
            for (int p = people - 1; p >= 0; p--) {
                if ((set >> p & 1) == 0) {
                    continue;
                }
                if (spots[p] + 1 < islands) {
                    put(p, spots[p] + 1);
                    return;
                }
                put(p, SHORE);
            }
        }

        int digitsOf(int set) {
            int digits = 0;
            for (int p = 0; p < people; p++) {
                if ((set >> p & 1) == 1) {
                    digits = digits * 10 + spots[p] + 1;
                }
            }
            return digits;
        }
    }

    /**
     * A TEXT, read: behind one another what its three parts do on a stack. What is not below 0 puts itself there,
     * a NAME what it names, all else takes one or two from it and puts one there.
     */
    private static final class Text {
        static final int FIRST_NAME = -1, LAST_NAME = -NAMES;
        static final int NEGATE = -11, NOT = -12;
        static final int OR = -21, AND = -22, LESS = -23, EQUAL = -24, PLUS = -25, MINUS = -26, TIMES = -27;

        private final int[] code;
        private final int costsFrom;
        private final int stormFrom;

        Text(int[] code, int costsFrom, int stormFrom) {
            this.code = code;
            this.costsFrom = costsFrom;
            this.stormFrom = stormFrom;
        }

        int valueOf(int part, int[] names, int[] stack) {
            int from = part == WORTH ? 0 : part == COSTS ? costsFrom : stormFrom;
            int to = part == WORTH ? costsFrom : part == COSTS ? stormFrom : code.length;
            int deep = 0;
            for (int k = from; k >= 0 && k < to && k < code.length; k++) {
                int step = code[k];
                int takes = step >= LAST_NAME ? 0 : step >= NOT ? 1 : 2;
                if (deep < takes || deep - takes >= stack.length) {
                    return 0;
                }
                deep -= takes;
                if (takes == 0) {
                    stack[deep] = step >= 0 ? step : names[FIRST_NAME - step];
                } else if (takes == 1) {
                    stack[deep] = step == NEGATE ? -stack[deep] : stack[deep] == 0 ? 1 : 0;
                } else {
                    stack[deep] = join(step, stack[deep], stack[deep + 1]);
                }
                deep++;
            }
            return deep > 0 ? stack[0] : 0;
        }

        private static int join(int step, int a, int b) {
            switch (step) {
                case OR: return a != 0 || b != 0 ? 1 : 0;
                case AND: return a != 0 && b != 0 ? 1 : 0;
                case LESS: return a < b ? 1 : 0;
                case EQUAL: return a == b ? 1 : 0;
                case PLUS: return a + b;
                case MINUS: return a - b;
                default: return a * b;
            }
        }
    }

    /** THE TAPE, and the reading of a TEXT from it. */
    private static final class Tape {
        /** TOKENS: a SIGN is its own byte. */
        private static final int END = -1, NO_TOKEN = -2, NUMBER = 256, FIRST_WORD = 300;
        private static final int FIRST_PART = 300, WORD_OR = 303, WORD_AND = 304, WORD_NOT = 305;
        private static final int FIRST_NAME = 306, LAST_NAME = 311;
        private static final String WORDS = "worth costs storm or and not told height more far tide number ";
        private static final int MOST_DIGITS = 4, MOST_OPEN = 5;

        final int[] bytes = new int[TAPE_BYTES];
        int size = 0;
        /** Where the TEXT last read is at FAULT; NONE. */
        int fault = NONE;
        private final int[] code = new int[TAPE_BYTES];
        private int codeSize = 0;
        private int token = END;
        private int tokenAt = 0;
        private int number = 0;
        private int next = 0;
        private int open = 0;

        void append(int b) {
            if (size < TAPE_BYTES) {
                bytes[size] = b;
                size++;
            }
        }

        void clear() {
            size = 0;
        }

        /** The TEXT; null, if it has a FAULT. */
        Text readText() {
            fault = NONE;
            codeSize = 0;
            next = 0;
            open = 0;
            int costsFrom = 0;
            int stormFrom = 0;
            readToken();
            for (int part = 0; part < PARTS; part++) {
                costsFrom = part == COSTS ? codeSize : costsFrom;
                stormFrom = part == STORM ? codeSize : stormFrom;
                pass(FIRST_PART + part);
                readOr();
                pass(';');
            }
            pass(END);
            return fault == NONE ? new Text(Arrays.copyOf(code, codeSize), costsFrom, stormFrom) : null;
        }

        // ---- TOKENS

        private void readToken() {
            while (next < size && (bytes[next] == 32 || bytes[next] == 10)) {
                next++;
            }
            tokenAt = next;
            if (next >= size) {
                token = END;
            } else if (isLetter(bytes[next])) {
                readWord();
            } else if (isDigit(bytes[next])) {
                readNumber();
            } else {
                token = isSign(bytes[next]) ? bytes[next] : NO_TOKEN;
                next++;
            }
        }

        private void readWord() {
            while (next < size && isLetter(bytes[next])) {
                next++;
            }
            token = NO_TOKEN;
            int word = FIRST_WORD;
            int from = 0;
            for (int k = 0; k < WORDS.length(); k++) {
                if (WORDS.charAt(k) == ' ') {
                    if (k - from == next - tokenAt && isSpelledFrom(from)) {
                        token = word;
                    }
                    word++;
                    from = k + 1;
                }
            }
        }

        /** Whether the WORD that ends at next is spelled as WORDS are from a place on. */
        private boolean isSpelledFrom(int from) {
            for (int k = tokenAt; k < next && k < size; k++) {
                int place = from + k - tokenAt;
                if (place >= WORDS.length() || WORDS.charAt(place) != bytes[k]) {
                    return false;
                }
            }
            return true;
        }

        private void readNumber() {
            number = 0;
            while (next < size && isDigit(bytes[next])) {
                number = number * 10 + bytes[next] - '0';
                next++;
            }
            token = next - tokenAt > MOST_DIGITS ? NO_TOKEN : NUMBER;
        }

        private static boolean isLetter(int b) {
            return b >= 'a' && b <= 'z';
        }

        private static boolean isDigit(int b) {
            return b >= '0' && b <= '9';
        }

        private static boolean isSign(int b) {
            return b == '(' || b == ')' || b == ';' || b == '+' || b == '-' || b == '*' || b == '<' || b == '=';
        }

        // ---- what stands where; behind a FAULT there is no TOKEN any more

        private void refuse() {
            if (fault == NONE) {
                fault = tokenAt;
            }
            token = NO_TOKEN;
        }

        private void pass(int wanted) {
            if (token == wanted && fault == NONE) {
                readToken();
            } else {
                refuse();
            }
        }

        private void emit(int step) {
            if (codeSize < TAPE_BYTES) {
                code[codeSize] = step;
                codeSize++;
            }
        }

        /** Whether the TOKEN, one of three that can nest, is passed and open now. */
        private boolean opens() {
            if (open >= MOST_OPEN) {
                refuse();
                return false;
            }
            open++;
            readToken();
            return true;
        }

        private void readOr() {
            readAnd();
            for (int k = 0; k < TAPE_BYTES && token == WORD_OR; k++) {
                pass(WORD_OR);
                readAnd();
                emit(Text.OR);
            }
        }

        private void readAnd() {
            readNot();
            for (int k = 0; k < TAPE_BYTES && token == WORD_AND; k++) {
                pass(WORD_AND);
                readNot();
                emit(Text.AND);
            }
        }

        private void readNot() {
            if (token == WORD_NOT) {
                if (opens()) {
                    readNot();
                    emit(Text.NOT);
                    open--;
                }
                return;
            }
            readSum();
            if (token == '<' || token == '=') {
                int step = token == '<' ? Text.LESS : Text.EQUAL;
                pass(token);
                readSum();
                emit(step);
            }
        }

        private void readSum() {
            readTerm();
            for (int k = 0; k < TAPE_BYTES && (token == '+' || token == '-'); k++) {
                int step = token == '+' ? Text.PLUS : Text.MINUS;
                pass(token);
                readTerm();
                emit(step);
            }
        }

        private void readTerm() {
            readOne();
            for (int k = 0; k < TAPE_BYTES && token == '*'; k++) {
                pass('*');
                readOne();
                emit(Text.TIMES);
            }
        }

        private void readOne() {
            if (token == NUMBER) {
                emit(number);
                pass(NUMBER);
            } else if (token >= FIRST_NAME && token <= LAST_NAME) {
                emit(Text.FIRST_NAME - (token - FIRST_NAME));
                pass(token);
            } else if (token == '-') {
                if (opens()) {
                    readOne();
                    emit(Text.NEGATE);
                    open--;
                }
            } else if (token == '(') {
                if (opens()) {
                    readOr();
                    pass(')');
                    open--;
                }
            } else {
                refuse();
            }
        }
    }
}
