import java.util.ArrayList;
import java.util.Arrays;
import java.util.HashSet;
import java.util.List;
import java.util.Set;
import java.util.TreeMap;

/**
 * The document once more, as plain as can be and with the whole Java library: what HighWater answers is held
 * against it. It shares no code and no way of counting with src/main/java.
 */
final class PlainBay {
    private static final class Fault extends RuntimeException {
        private static final long serialVersionUID = 1L;
        final int place;

        Fault(int place) {
            super(null, null, false, false);
            this.place = place;
        }
    }

    /** A text as the words and signs of each of its parts; read anew whenever it is asked. */
    private record Law(List<List<String>> parts) {
    }

    private record Isle(int kind, int told, int rises, int more) {
    }

    private final int[] highs = new int[12];
    private List<int[]> people = new ArrayList<>();
    private List<Isle> isles = new ArrayList<>();
    private final List<Law> laws = new ArrayList<>();
    private int law = 0;
    private final StringBuilder tape = new StringBuilder();
    private final int[][] sheets = new int[4][];
    private final int[] sorts = new int[4];
    private int[] imageHighs = null;
    private List<int[]> imagePeople;
    private int imageIsles;
    private int imageLaw;

    PlainBay() {
        Arrays.fill(highs, 5);
        tape.append("worth told ; costs far ; storm height * 2 ;");
        text();
    }

    // ---- reading

    private record Token(String word, int place) {
    }

    private List<Token> tokens() {
        List<Token> all = new ArrayList<>();
        int k = 0;
        while (k < tape.length()) {
            char c = tape.charAt(k);
            int from = k;
            if (c == 32 || c == 10) {
                k++;
                continue;
            }
            if (c >= 'a' && c <= 'z') {
                while (k < tape.length() && tape.charAt(k) >= 'a' && tape.charAt(k) <= 'z') {
                    k++;
                }
            } else if (c >= '0' && c <= '9') {
                while (k < tape.length() && tape.charAt(k) >= '0' && tape.charAt(k) <= '9') {
                    k++;
                }
            } else {
                k++;
            }
            all.add(new Token(tape.substring(from, k), from));
        }
        all.add(new Token("", tape.length()));
        return all;
    }

    private static final List<String> NAMES = List.of("told", "height", "more", "far", "tide", "number");

    /** Reads and counts at once; only the reading matters for a FAULT. */
    private static final class Reading {
        final List<Token> tokens;
        final int[] names;
        int next = 0;
        int open = 0;

        Reading(List<Token> tokens, int[] names) {
            this.tokens = tokens;
            this.names = names;
        }

        String word() {
            return tokens.get(next).word();
        }

        Fault fault() {
            return new Fault(tokens.get(next).place());
        }

        void pass(String wanted) {
            if (!word().equals(wanted)) {
                throw fault();
            }
            next++;
        }

        void open() {
            if (open == 5) {
                throw fault();
            }
            open++;
            next++;
        }

        int or() {
            int v = and();
            while (word().equals("or")) {
                next++;
                int w = and();
                v = v != 0 || w != 0 ? 1 : 0;
            }
            return v;
        }

        int and() {
            int v = not();
            while (word().equals("and")) {
                next++;
                int w = not();
                v = v != 0 && w != 0 ? 1 : 0;
            }
            return v;
        }

        int not() {
            if (word().equals("not")) {
                open();
                int v = not();
                open--;
                return v == 0 ? 1 : 0;
            }
            int v = sum();
            if (word().equals("<")) {
                next++;
                return v < sum() ? 1 : 0;
            }
            if (word().equals("=")) {
                next++;
                return v == sum() ? 1 : 0;
            }
            return v;
        }

        int sum() {
            int v = term();
            while (word().equals("+") || word().equals("-")) {
                boolean plus = word().equals("+");
                next++;
                int w = term();
                v = plus ? v + w : v - w;
            }
            return v;
        }

        int term() {
            int v = one();
            while (word().equals("*")) {
                next++;
                v *= one();
            }
            return v;
        }

        int one() {
            String word = word();
            if (word.equals("-")) {
                open();
                int v = one();
                open--;
                return -v;
            }
            if (word.equals("(")) {
                open();
                int v = or();
                pass(")");
                open--;
                return v;
            }
            if (NAMES.contains(word)) {
                next++;
                return names[NAMES.indexOf(word)];
            }
            if (word.matches("[0-9]{1,4}")) {
                next++;
                return Integer.parseInt(word);
            }
            throw fault();
        }
    }

    int text() {
        if (laws.size() == 6) {
            return -4;
        }
        List<Token> tokens = tokens();
        tape.setLength(0);
        Reading reading = new Reading(tokens, new int[6]);
        List<List<String>> parts = new ArrayList<>();
        try {
            for (String key : List.of("worth", "costs", "storm")) {
                reading.pass(key);
                int from = reading.next;
                reading.or();
                List<String> part = new ArrayList<>();
                for (Token token : tokens.subList(from, reading.next)) {
                    part.add(token.word());
                }
                parts.add(part);
                reading.pass(";");
            }
            reading.pass("");
        } catch (Fault fault) {
            return -100 - fault.place;
        }
        laws.add(new Law(parts));
        return laws.size() - 1;
    }

    private int says(Law said, int part, int... names) {
        List<Token> tokens = new ArrayList<>();
        for (String word : said.parts().get(part)) {
            tokens.add(new Token(word, 0));
        }
        tokens.add(new Token("", 0));
        int v = new Reading(tokens, names).or();
        return Math.max(0, Math.min(part == 2 ? 100 : 99, v));
    }

    // ---- what holds

    private boolean noTide(int t) {
        return t < 0 || t > 11;
    }

    private boolean noOne(int p) {
        return p < 0 || p >= people.size();
    }

    private boolean noIsle(int i) {
        return i < 0 || i >= isles.size();
    }

    private boolean stands(int i, int t) {
        Isle isle = isles.get(i);
        return isle.kind() != 2 && isle.kind() != 4 || highs[t] <= isle.rises();
    }

    private int worth(Law by, int i, int t) {
        Isle isle = isles.get(i);
        int said = says(by, 0, isle.told(), highs[t], isle.more(), 0, t, i);
        return switch (isle.kind()) {
            case 1 -> said + isle.more() * t;
            case 3 -> 2 * (said + isle.more() * t) + 1;
            case 4 -> t < isle.more() ? said + 5 : 0;
            default -> said;
        };
    }

    private boolean joins(int a, int b, int t) {
        Isle isle = isles.get(a);
        return isle.kind() == 5 && highs[t] < isle.rises() && isle.more() % 6 == b;
    }

    /** All that are ONE with it: what is joined to one of them comes, till none comes any more. */
    private Set<Integer> one(int i, int t) {
        Set<Integer> all = new HashSet<>();
        all.add(i);
        boolean more = true;
        while (more) {
            more = false;
            for (int a = 0; a < isles.size(); a++) {
                for (int b : new ArrayList<>(all)) {
                    if (joins(a, b, t) || joins(b, a, t)) {
                        more |= all.add(a);
                    }
                }
            }
        }
        return all;
    }

    private int[] placesAt(int t) {
        int[] places = new int[people.size()];
        for (int p = 0; p < places.length; p++) {
            places[p] = people.get(p)[t];
        }
        return places;
    }

    private int whose(int[] places, int i, int t) {
        Set<Integer> all = one(i, t);
        int owner = -1;
        for (int p = 0; p < places.length; p++) {
            if (places[p] >= 0 && stands(places[p], t) && all.contains(places[p])) {
                if (owner >= 0) {
                    return -1;
                }
                owner = p;
            }
        }
        return owner;
    }

    private int gain(Law by, int[] places, int p, int t) {
        int sum = 0;
        for (int i = 0; i < isles.size(); i++) {
            if (stands(i, t) && whose(places, i, t) == p) {
                sum += worth(by, i, t);
            }
        }
        return sum;
    }

    private int gain(int[] places, int p, int t) {
        return gain(laws.get(law), places, p, t);
    }

    private int cost(int p, int to, int t) {
        int from = t == 0 ? -1 : people.get(p)[t - 1];
        if (to == -1 || to == from) {
            return 0;
        }
        int far = from == -1 ? 1 + to : Math.abs(from - to);
        return says(laws.get(law), 1, 0, highs[t], 0, far, t, to);
    }

    private int left(int[] places, int p, int t) {
        return places[p] == -1 ? 0 : gain(places, p, t) - cost(p, places[p], t);
    }

    private static int[] with(int[] places, int p, int place) {
        int[] other = places.clone();
        other[p] = place;
        return other;
    }

    private boolean atRest(int[] places, int t) {
        for (int p = 0; p < places.length; p++) {
            int left = left(places, p, t);
            for (int i = -1; i < isles.size(); i++) {
                if (left(with(places, p, i), p, t) > left) {
                    return false;
                }
            }
        }
        return true;
    }

    /** All WAYS of a set, by their digits, in their order. */
    private TreeMap<Integer, int[]> waysOf(int set, int t) {
        TreeMap<Integer, int[]> ways = new TreeMap<>();
        ways(set, 0, 0, placesAt(t), ways);
        return ways;
    }

    private void ways(int set, int p, int digits, int[] places, TreeMap<Integer, int[]> into) {
        if (p == places.length) {
            into.put(digits, places.clone());
        } else if ((set & 1 << p) == 0) {
            ways(set, p + 1, digits, places, into);
        } else {
            for (int i = -1; i < isles.size(); i++) {
                ways(set, p + 1, digits * 10 + i + 1, with(places, p, i), into);
            }
        }
    }

    // ---- the face

    int tide(int t, int v) {
        if (noTide(t)) {
            return -5;
        }
        if (v < 0 || v > 9) {
            return -7;
        }
        int was = highs[t];
        highs[t] = v;
        return was;
    }

    int height(int t) {
        return noTide(t) ? -5 : highs[t];
    }

    int come() {
        if (people.size() == 4) {
            return -4;
        }
        int[] places = new int[12];
        Arrays.fill(places, -1);
        people.add(places);
        return people.size() - 1;
    }

    int go(int p, int t, int i) {
        if (noOne(p) || noTide(t)) {
            return -5;
        }
        if (i != -1 && noIsle(i)) {
            return -7;
        }
        int was = people.get(p)[t];
        people.get(p)[t] = i;
        return was;
    }

    int at(int p, int t) {
        return noOne(p) || noTide(t) ? -5 : people.get(p)[t];
    }

    int count(int what) {
        int[] counts = {isles.size(), people.size(), laws.size(), law, tape.length()};
        return what < 0 || what > 4 ? -2 : counts[what];
    }

    int feed(int n, int... bytes) {
        if (n < 1 || n > 5 || Arrays.stream(bytes).anyMatch(b -> b < 0 || b > 255)) {
            return -2;
        }
        if (tape.length() + n > 160) {
            return -4;
        }
        for (int k = 0; k < n; k++) {
            tape.append((char) bytes[k]);
        }
        return tape.length();
    }

    int force(int t) {
        if (t < 0 || t >= laws.size()) {
            return -2;
        }
        int was = law;
        law = t;
        return was;
    }

    int asks(int part, int told, int heightMore, int far, int tideNumber) {
        if (part < 0 || part > 2 || told < 0 || told > 99 || heightMore < 0 || heightMore > 99 || far < 0 || far > 9
                || tideNumber < 0 || tideNumber > 119) {
            return -2;
        }
        return says(laws.get(law), part, told, heightMore / 10, heightMore % 10, far, tideNumber / 10,
                tideNumber % 10);
    }

    int island(int kind, int told, int high, int more) {
        if (kind < 0 || kind > 5 || told < 0 || told > 99 || high < 0 || high > 9 || more < 0 || more > 9) {
            return -2;
        }
        if (isles.size() == 6) {
            return -4;
        }
        isles.add(new Isle(kind, told, high, more));
        return isles.size() - 1;
    }

    int told(int i, int what) {
        if (noIsle(i)) {
            return -5;
        }
        Isle isle = isles.get(i);
        int[] all = {isle.kind(), isle.told(), isle.rises(), isle.more()};
        return what < 0 || what > 3 ? -7 : all[what];
    }

    int then(int i, int t, int what) {
        if (noIsle(i) || noTide(t)) {
            return -5;
        }
        return switch (what) {
            case 0 -> worth(laws.get(law), i, t);
            case 1 -> stands(i, t) ? 1 : 0;
            case 2 -> one(i, t).stream().mapToInt(k -> 1 << k).sum();
            default -> -7;
        };
    }

    int joined(int a, int b) {
        if (noIsle(a) || noIsle(b)) {
            return -5;
        }
        int bits = 0;
        for (int t = 0; t < 12; t++) {
            bits |= one(a, t).contains(b) ? 1 << t : 0;
        }
        return bits;
    }

    int whose(int i, int t) {
        return noIsle(i) || noTide(t) ? -5 : whose(placesAt(t), i, t);
    }

    int gain(int p, int t) {
        return noOne(p) || noTide(t) ? -5 : gain(placesAt(t), p, t);
    }

    int costs(int p, int t) {
        return noOne(p) || noTide(t) ? -5 : cost(p, people.get(p)[t], t);
    }

    int year(int p, int what) {
        if (noOne(p)) {
            return -5;
        }
        if (what < 0 || what > 2) {
            return -7;
        }
        int[] sums = new int[3];
        for (int t = 0; t < 12; t++) {
            sums[0] += gain(p, t);
            sums[1] += costs(p, t);
            sums[2] += gain(p, t) > 0 ? 1 : 0;
        }
        return sums[what];
    }

    int best(int p, int t, int what) {
        if (noOne(p) || noTide(t)) {
            return -5;
        }
        if (what != 0 && what != 1) {
            return -7;
        }
        int most = Integer.MIN_VALUE;
        int place = -2;
        for (int i = -1; i < isles.size(); i++) {
            int left = left(with(placesAt(t), p, i), p, t);
            if (left > most) {
                most = left;
                place = i;
            }
        }
        return what == 0 ? place : most;
    }

    int wise(int p) {
        if (noOne(p)) {
            return -5;
        }
        int sum = 0;
        for (int t = 0; t < 12; t++) {
            sum += best(p, t, 1);
            people.get(p)[t] = best(p, t, 0);
        }
        return sum;
    }

    int rest(int t) {
        return noTide(t) ? -5 : atRest(placesAt(t), t) ? 1 : 0;
    }

    int ways(int t, int what) {
        if (noTide(t)) {
            return -5;
        }
        if (what != 0 && what != 1) {
            return -7;
        }
        int first = -1;
        int howMany = 0;
        for (var way : waysOf(15, t).entrySet()) {
            if (atRest(way.getValue(), t)) {
                first = first == -1 ? way.getKey() : first;
                howMany++;
            }
        }
        return what == 0 ? howMany : first;
    }

    int family(int set, int t, int what) {
        if (set < 0 || set >= 1 << people.size() || noTide(t)) {
            return -5;
        }
        if (what != 0 && what != 1) {
            return -7;
        }
        int most = Integer.MIN_VALUE;
        int digits = -1;
        for (var way : waysOf(set, t).entrySet()) {
            int sum = 0;
            for (int p = 0; p < people.size(); p++) {
                sum += (set & 1 << p) == 0 ? 0 : left(way.getValue(), p, t);
            }
            if (sum > most) {
                most = sum;
                digits = way.getKey();
            }
        }
        return what == 0 ? most : digits;
    }

    int spoil(int p, int t, int what) {
        if (noOne(p) || noTide(t)) {
            return -5;
        }
        if (what != 0 && what != 1) {
            return -7;
        }
        int least = Integer.MAX_VALUE;
        int place = -2;
        for (int i = -1; i < isles.size(); i++) {
            int sum = 0;
            for (int q = 0; q < people.size(); q++) {
                sum += q == p ? 0 : gain(with(placesAt(t), p, i), q, t);
            }
            if (sum < least) {
                least = sum;
                place = i;
            }
        }
        return what == 0 ? place : least;
    }

    int ransom(int p, int other, int t) {
        if (noOne(p) || noOne(other) || p == other || noTide(t)) {
            return -5;
        }
        return gain(with(placesAt(t), other, -1), p, t) - gain(p, t);
    }

    private int[] shares(int t, int from, int turned) {
        int n = people.size();
        List<Integer> order = new ArrayList<>();
        for (int round = 0; order.size() < 24; round++) {
            List<Integer> turns = new ArrayList<>();
            for (int k = 0; k < n; k++) {
                turns.add((from + k) % n);
            }
            if (turned == 1 && round % 2 == 1) {
                java.util.Collections.reverse(turns);
            }
            order.addAll(turns);
        }
        List<Integer> worths = new ArrayList<>();
        for (int i = 0; i < isles.size(); i++) {
            if (stands(i, t)) {
                worths.add(worth(laws.get(law), i, t));
            }
        }
        worths.sort(java.util.Comparator.reverseOrder());
        int[] shares = new int[n];
        for (int k = 0; k < worths.size(); k++) {
            shares[order.get(k)] += worths.get(k);
        }
        return shares;
    }

    int share(int p, int t, int from, int turned) {
        if (noOne(p) || noOne(from) || noTide(t)) {
            return -5;
        }
        return turned != 0 && turned != 1 ? -7 : shares(t, from, turned)[p];
    }

    int unfair(int t, int from, int turned) {
        if (noOne(from) || noTide(t)) {
            return -5;
        }
        if (turned != 0 && turned != 1) {
            return -7;
        }
        int[] shares = shares(t, from, turned);
        return Arrays.stream(shares).max().getAsInt() - Arrays.stream(shares).min().getAsInt();
    }

    int dear(int what) {
        if (what < 0 || what > 3) {
            return -2;
        }
        int most = Integer.MIN_VALUE;
        int first = -1;
        for (int t = 0; t < 12; t++) {
            int sum = 0;
            for (int i = 0; i < isles.size(); i++) {
                if (stands(i, t) && (what < 2 || whose(i, t) == -1)) {
                    sum += worth(laws.get(law), i, t);
                }
            }
            if (sum > most) {
                most = sum;
                first = t;
            }
        }
        return what == 0 || what == 2 ? first : most;
    }

    int holds(int p, int i, int what) {
        if (noOne(p) || noIsle(i)) {
            return -5;
        }
        if (what != 0 && what != 1) {
            return -7;
        }
        for (int length = 12; length > 0; length--) {
            for (int from = 0; from + length <= 12; from++) {
                boolean all = true;
                for (int t = from; t < from + length; t++) {
                    all &= whose(i, t) == p;
                }
                if (all) {
                    return what == 0 ? length : from;
                }
            }
        }
        return what == 0 ? 0 : -1;
    }

    private int refusal(int s) {
        if (s < 0 || s > 3) {
            return -2;
        }
        return sheets[s] == null ? -11 : sheets[s].length != isles.size() ? -2 : 0;
    }

    private int otherwise(int s, int[] places, int t) {
        for (int i = 0; i < isles.size(); i++) {
            if (sheets[s][i] != whose(places, i, t)) {
                return i;
            }
        }
        return -1;
    }

    int judge(int s, int t) {
        return refusal(s) != 0 ? refusal(s) : noTide(t) ? -5 : otherwise(s, placesAt(t), t);
    }

    int when(int s) {
        if (refusal(s) != 0) {
            return refusal(s);
        }
        int bits = 0;
        for (int t = 0; t < 12; t++) {
            bits |= otherwise(s, placesAt(t), t) == -1 ? 1 << t : 0;
        }
        return bits;
    }

    int were(int s, int t, int who, int what) {
        if (refusal(s) != 0) {
            return refusal(s);
        }
        if (noTide(t) || noOne(who)) {
            return -5;
        }
        if (what != 0 && what != 1) {
            return -7;
        }
        int howMany = 0;
        int bits = 0;
        for (int[] way : waysOf(15, t).values()) {
            if (otherwise(s, way, t) == -1) {
                howMany++;
                bits |= 1 << way[who] + 1;
            }
        }
        return what == 0 ? howMany : bits;
    }

    int film(int s, int t) {
        if (s < 0 || s > 3) {
            return -2;
        }
        if (noTide(t)) {
            return -5;
        }
        sorts[s] = 2;
        sheets[s] = new int[isles.size()];
        for (int i = 0; i < isles.size(); i++) {
            sheets[s][i] = whose(i, t);
        }
        return isles.size();
    }

    int laws(int p, int t, int much) {
        if (noOne(p) || noTide(t)) {
            return -5;
        }
        if (much < 0 || much > 99999) {
            return -7;
        }
        int bits = 0;
        for (int k = 0; k < laws.size(); k++) {
            bits |= gain(laws.get(k), placesAt(t), p, t) == much ? 1 << k : 0;
        }
        return bits;
    }

    private int[] afterStorm(long seed, int t) {
        int[] places = placesAt(t);
        long lot = seed + 1;
        for (int p = 0; p < places.length; p++) {
            lot = lot * 48271 % 2147483647;
            if (places[p] >= 0 && lot % 100 < says(laws.get(law), 2, 0, highs[t], 0, 0, t, places[p])) {
                places[p] = -1;
            }
        }
        return places;
    }

    int drawn(int seed, int p, int t, int what) {
        if (noOne(p) || noTide(t)) {
            return -5;
        }
        if (seed < 0 || seed > 99999 || what != 0 && what != 1) {
            return -7;
        }
        int[] after = afterStorm(seed, t);
        if (what == 1) {
            return gain(after, p, t);
        }
        int bits = 0;
        for (int q = 0; q < people.size(); q++) {
            bits |= after[q] != people.get(q)[t] ? 1 << q : 0;
        }
        return bits;
    }

    long mean(int p, int t, int seed, int seeds, int part) {
        if (noOne(p) || noTide(t) || seed < 0 || seed > 99999 || seeds < 1 || seeds > 40 || part != 0 && part != 1) {
            return -4611686018427387904L;
        }
        long sum = 0;
        for (int k = 0; k < seeds; k++) {
            sum += gain(afterStorm(seed + k, t), p, t);
        }
        long gcd = java.math.BigInteger.valueOf(sum).gcd(java.math.BigInteger.valueOf(seeds)).longValue();
        return part == 0 ? sum / gcd : seeds / gcd;
    }

    private static List<int[]> cloneAll(List<int[]> rows) {
        List<int[]> clones = new ArrayList<>();
        for (int[] row : rows) {
            clones.add(row.clone());
        }
        return clones;
    }

    int image() {
        imageHighs = highs.clone();
        imagePeople = cloneAll(people);
        imageIsles = isles.size();
        imageLaw = law;
        return isles.size();
    }

    int back() {
        if (imageHighs == null) {
            return -3;
        }
        System.arraycopy(imageHighs, 0, highs, 0, 12);
        people = cloneAll(imagePeople);
        isles = new ArrayList<>(isles.subList(0, imageIsles));
        law = imageLaw;
        return isles.size();
    }

    int sheet(int s, int sort, int n) {
        if (s < 0 || s > 3 || sort < -1 || sort > 2 || sort >= 0 && n > 40) {
            return -2;
        }
        if (sort >= 0 && n < 0) {
            return -14;
        }
        sheets[s] = sort < 0 ? null : new int[n];
        sorts[s] = sort;
        return 1;
    }

    int cell(int s, int i, int v) {
        if (s < 0 || s > 3) {
            return -2;
        }
        if (sheets[s] == null) {
            return -11;
        }
        if (i < 0 || i >= sheets[s].length) {
            return -12;
        }
        sheets[s][i] = sorts[s] == 0 ? (byte) v : sorts[s] == 1 ? (short) v : v;
        return 1;
    }

    int copy(int s, int i, int other, int j, int n) {
        if (s < 0 || s > 3 || other < 0 || other > 3) {
            return -2;
        }
        if (sheets[s] == null || sheets[other] == null) {
            return -11;
        }
        if (sorts[s] != sorts[other]) {
            return -13;
        }
        try {
            System.arraycopy(sheets[s], i, sheets[other], j, n);
        } catch (IndexOutOfBoundsException outside) {
            return -12;
        }
        return n;
    }

    int islandsBy(int s, int sort, int at, int n) {
        if (s < 0 || s > 3 || sort < 0 || sort > 2 || n < 0 || n > 6) {
            return -2;
        }
        if (sheets[s] == null) {
            return -11;
        }
        if (sorts[s] != sort) {
            return -13;
        }
        int came = 0;
        for (int k = 0; k < n; k++) {
            int[] four = new int[4];
            try {
                for (int c = 0; c < 4; c++) {
                    four[c] = sheets[s][Math.addExact(at, 4 * k + c)];
                }
            } catch (IndexOutOfBoundsException | ArithmeticException outside) {
                return -12;
            }
            came += island(four[0], four[1], four[2], four[3]) >= 0 ? 1 : 0;
        }
        return came;
    }

    int taken(int i, int kind) {
        if (kind < 0 || kind > 6) {
            return -2;
        }
        if (i < 0 || i > 17) {
            return -12;
        }
        if (i < 12) {
            return highs[i] == 0 ? -11 : kind == 6 ? highs[i] : -13;
        }
        if (noIsle(i - 12)) {
            return -11;
        }
        int is = isles.get(i - 12).kind();
        String kinds = List.of("0", "01", "02", "013", "024", "05").get(is);
        return kinds.indexOf('0' + kind) >= 0 ? i - 12 : -13;
    }
}
