import java.util.ArrayList;
import java.util.Arrays;
import java.util.List;
import java.util.Random;
import java.util.function.Supplier;

/** Random runs of calls, each answer held against PlainBay's. */
public final class PlainTest {
    private interface Ask {
        long of(int[] a);
    }

    private record Call(String name, Supplier<int[]> arguments, Ask real, Ask plain) {
    }

    private static final int[] ODD = {-1, -2, -5, 4, 6, 10, 12, 13, 40, 41, 99, 100, 119, 120, 255, 256, 99999, 100000,
        Integer.MAX_VALUE, Integer.MIN_VALUE};
    private static final String[] TOKENS = {"worth", "costs", "storm", "or", "and", "not", "told", "height", "more",
        "far", "tide", "number", "(", ")", ";", "+", "-", "*", "<", "=", "1", "0", "12", "9999", "12345", "tolt", "?"};
    private static final String[] TWO_SIDED = {" or ", " and ", "<", " = ", "+", " - ", "*"};

    private final Random random;
    private final HighWater x = new HighWater();
    private final PlainBay y = new PlainBay();
    /** How seldom an argument is odd: one in so many. */
    private final int seldom;
    private final List<Call> settings = new ArrayList<>();
    private final List<Call> calls = new ArrayList<>();

    private PlainTest(long seed, int seldom) {
        random = new Random(seed);
        this.seldom = seldom;
        addSettings();
        addOwners();
        addFamilies();
        addStorms();
        addHost();
        calls.addAll(settings);
    }

    public static void main(String[] args) {
        int runs = args.length > 0 ? Integer.parseInt(args[0]) : 250;
        for (int run = 0; run < runs; run++) {
            new PlainTest(run, run % 5 == 0 ? 4 : 60).run(run);
        }
        Due.end();
    }

    private void run(int run) {
        for (int k = 0; k < 512; k++) {
            List<Call> among = k < 30 ? settings : calls;
            Call call = among.get(random.nextInt(among.size()));
            int[] a = call.arguments().get();
            String told = "run " + run + ", call " + k + ": " + call.name() + Arrays.toString(a);
            Due.is(told, call.real().of(a), call.plain().of(a));
            if (k > 30 && random.nextInt(20) == 0) {
                feedText();
            }
        }
    }

    // ---- calls with their arguments

    private static int[] all(int... a) {
        return a;
    }

    private void add(String name, Supplier<int[]> arguments, Ask real, Ask plain) {
        calls.add(new Call(name, arguments, real, plain));
    }

    private void addSettings() {
        settings.add(new Call("tide", () -> all(top(), pick(9)), a -> x.tide(a[0], a[1]), a -> y.tide(a[0], a[1])));
        settings.add(new Call("come", () -> all(), a -> x.come(), a -> y.come()));
        for (int k = 0; k < 3; k++) {
            settings.add(new Call("go", () -> all(one(), top(), isle() - (random.nextInt(5) == 0 ? 1 : 0)),
                    a -> x.go(a[0], a[1], a[2]), a -> y.go(a[0], a[1], a[2])));
        }
        settings.add(new Call("island", () -> all(pick(5), pick(99), pick(9), pick(9)),
                a -> x.island(a[0], a[1], a[2], a[3]), a -> y.island(a[0], a[1], a[2], a[3])));
        add("height", () -> all(top()), a -> x.height(a[0]), a -> y.height(a[0]));
        add("at", () -> all(one(), top()), a -> x.at(a[0], a[1]), a -> y.at(a[0], a[1]));
        add("count", () -> all(pick(4)), a -> x.count(a[0]), a -> y.count(a[0]));
        add("feed", () -> all(pick(5), pick(255), pick(255), pick(255), pick(255), pick(255)),
                a -> x.feed(a[0], a[1], a[2], a[3], a[4], a[5]), a -> y.feed(a[0], a[1], a[2], a[3], a[4], a[5]));
        add("text", () -> all(), a -> x.text(), a -> y.text());
        add("force", () -> all(Math.min(pick(5), x.count(2))), a -> x.force(a[0]), a -> y.force(a[0]));
        add("asks", () -> all(pick(2), pick(99), pick(99), pick(9), pick(119)),
                a -> x.asks(a[0], a[1], a[2], a[3], a[4]), a -> y.asks(a[0], a[1], a[2], a[3], a[4]));
        add("told", () -> all(isle(), pick(3)), a -> x.told(a[0], a[1]), a -> y.told(a[0], a[1]));
        add("then", () -> all(isle(), top(), pick(2)), a -> x.then(a[0], a[1], a[2]), a -> y.then(a[0], a[1], a[2]));
        add("joined", () -> all(isle(), isle()), a -> x.joined(a[0], a[1]), a -> y.joined(a[0], a[1]));
    }

    private void addOwners() {
        add("whose", () -> all(isle(), top()), a -> x.whose(a[0], a[1]), a -> y.whose(a[0], a[1]));
        add("gain", () -> all(one(), top()), a -> x.gain(a[0], a[1]), a -> y.gain(a[0], a[1]));
        add("costs", () -> all(one(), top()), a -> x.costs(a[0], a[1]), a -> y.costs(a[0], a[1]));
        add("year", () -> all(one(), pick(2)), a -> x.year(a[0], a[1]), a -> y.year(a[0], a[1]));
        add("best", () -> all(one(), top(), pick(1)), a -> x.best(a[0], a[1], a[2]), a -> y.best(a[0], a[1], a[2]));
        add("wise", () -> all(one()), a -> x.wise(a[0]), a -> y.wise(a[0]));
        add("rest", () -> all(top()), a -> x.rest(a[0]), a -> y.rest(a[0]));
        add("ways", () -> all(top(), pick(1)), a -> isSmall() ? x.ways(a[0], a[1]) : 0,
                a -> isSmall() ? y.ways(a[0], a[1]) : 0);
    }

    private void addFamilies() {
        add("family", () -> all(pick((1 << x.count(1)) - 1), top(), pick(1)),
                a -> isSmall() ? x.family(a[0], a[1], a[2]) : 0, a -> isSmall() ? y.family(a[0], a[1], a[2]) : 0);
        add("spoil", () -> all(one(), top(), pick(1)), a -> x.spoil(a[0], a[1], a[2]), a -> y.spoil(a[0], a[1], a[2]));
        add("ransom", () -> all(one(), one(), top()), a -> x.ransom(a[0], a[1], a[2]), a -> y.ransom(a[0], a[1], a[2]));
        add("share", () -> all(one(), top(), one(), pick(1)), a -> x.share(a[0], a[1], a[2], a[3]),
                a -> y.share(a[0], a[1], a[2], a[3]));
        add("unfair", () -> all(top(), one(), pick(1)), a -> x.unfair(a[0], a[1], a[2]),
                a -> y.unfair(a[0], a[1], a[2]));
        add("dear", () -> all(pick(3)), a -> x.dear(a[0]), a -> y.dear(a[0]));
        add("holds", () -> all(one(), isle(), pick(1)), a -> x.holds(a[0], a[1], a[2]),
                a -> y.holds(a[0], a[1], a[2]));
    }

    private void addStorms() {
        add("judge", () -> all(pick(3), top()), a -> x.judge(a[0], a[1]), a -> y.judge(a[0], a[1]));
        add("when", () -> all(pick(3)), a -> x.when(a[0]), a -> y.when(a[0]));
        add("were", () -> all(pick(3), top(), one(), pick(1)), a -> isSmall() ? x.were(a[0], a[1], a[2], a[3]) : 0,
                a -> isSmall() ? y.were(a[0], a[1], a[2], a[3]) : 0);
        add("film", () -> all(pick(3), top()), a -> x.film(a[0], a[1]), a -> y.film(a[0], a[1]));
        add("laws", () -> all(one(), top(), pick(99999)), a -> x.laws(a[0], a[1], a[2]),
                a -> y.laws(a[0], a[1], a[2]));
        add("laws of the GAIN", () -> all(one(), top()), a -> x.laws(a[0], a[1], Math.max(0, x.gain(a[0], a[1]))),
                a -> y.laws(a[0], a[1], Math.max(0, y.gain(a[0], a[1]))));
        add("drawn", () -> all(pick(99999), one(), top(), pick(1)), a -> x.drawn(a[0], a[1], a[2], a[3]),
                a -> y.drawn(a[0], a[1], a[2], a[3]));
        add("mean", () -> all(one(), top(), pick(99999), 1 + pick(39), pick(1)),
                a -> x.mean(a[0], a[1], a[2], a[3], a[4]), a -> y.mean(a[0], a[1], a[2], a[3], a[4]));
        add("image", () -> all(), a -> x.image(), a -> y.image());
        add("back", () -> all(), a -> x.back(), a -> y.back());
    }

    private void addHost() {
        add("sheet", () -> all(pick(3), pick(3) - 1, random.nextBoolean() ? x.count(0) : pick(40)),
                a -> x.sheet(a[0], a[1], a[2]), a -> y.sheet(a[0], a[1], a[2]));
        for (int k = 0; k < 3; k++) {
            add("cell", () -> all(pick(3), pick(10), random.nextInt(4) == 0 ? pick(99999) : pick(4) - 1),
                    a -> x.cell(a[0], a[1], a[2]), a -> y.cell(a[0], a[1], a[2]));
        }
        add("copy", () -> all(pick(3), pick(8), pick(3), pick(8), pick(8)),
                a -> x.copy(a[0], a[1], a[2], a[3], a[4]), a -> y.copy(a[0], a[1], a[2], a[3], a[4]));
        add("islandsBy", () -> all(pick(3), pick(2), pick(12), pick(6)), a -> x.islandsBy(a[0], a[1], a[2], a[3]),
                a -> y.islandsBy(a[0], a[1], a[2], a[3]));
        add("taken", () -> all(pick(17), pick(6)), a -> x.taken(a[0], a[1]), a -> y.taken(a[0], a[1]));
    }

    private int pick(int most) {
        if (random.nextInt(seldom) == 0) {
            return ODD[random.nextInt(ODD.length)];
        }
        return random.nextInt(most + 1);
    }

    private int one() {
        return pick(Math.max(0, x.count(1) - 1));
    }

    private int isle() {
        return pick(Math.max(0, x.count(0) - 1));
    }

    /** Few tides, so that something happens at them. */
    private int top() {
        return random.nextInt(3) == 0 ? pick(11) : pick(2);
    }

    /** PlainBay counts all WAYS the long way round: not for the largest bays. */
    private boolean isSmall() {
        return Math.pow(x.count(0) + 1, x.count(1)) < 700;
    }

    // ---- texts

    /** Feeds a text of random tokens or one that may be good, and reads it. */
    private void feedText() {
        String text = random.nextInt(3) == 0 ? anyText() : likelyText();
        for (int k = 0; k < text.length(); k++) {
            int b = text.charAt(k);
            Due.is("feed", x.feed(1, b, 0, 0, 0, 0), y.feed(1, b, 0, 0, 0, 0));
        }
        int got = x.text();
        Due.is("text " + text, got, y.text());
        if (got >= 0 && random.nextBoolean()) {
            Due.is("force", x.force(got), y.force(got));
        }
    }

    private String anyText() {
        StringBuilder text = new StringBuilder();
        for (int k = random.nextInt(30); k >= 0; k--) {
            text.append(TOKENS[random.nextInt(TOKENS.length)]).append(random.nextBoolean() ? " " : "");
        }
        return text.toString();
    }

    private String likelyText() {
        StringBuilder text = new StringBuilder();
        for (String key : new String[] {"worth ", "costs ", "storm "}) {
            text.append(key).append(e(3)).append(random.nextBoolean() ? ";" : " ;\n");
        }
        if (random.nextInt(4) == 0) {
            String other = TOKENS[random.nextInt(TOKENS.length)];
            text.insert(random.nextInt(text.length()), random.nextBoolean() ? other : " " + other + " ");
        }
        return text.toString();
    }

    private String e(int depth) {
        int kind = random.nextInt(depth == 0 ? 2 : 12);
        switch (kind) {
            case 0: return "" + random.nextInt(random.nextBoolean() ? 10 : 100);
            case 1: case 2: return TOKENS[6 + random.nextInt(6)];
            case 3: return "-" + e(depth - 1);
            case 4: return " not " + e(depth - 1);
            case 5: return "(" + e(depth - 1) + ")";
            default: return e(depth - 1) + TWO_SIDED[random.nextInt(TWO_SIDED.length)] + e(depth - 1);
        }
    }
}
