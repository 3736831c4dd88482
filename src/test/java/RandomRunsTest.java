import java.lang.reflect.InvocationTargetException;
import java.lang.reflect.Method;
import java.lang.reflect.Modifier;
import java.util.ArrayList;
import java.util.Arrays;
import java.util.Comparator;
import java.util.HashMap;
import java.util.List;
import java.util.Map;
import java.util.Random;

/** Long runs of random calls, each answered by StreetMarket and by PlainMarket: both must agree, in answers and throws. */
public final class RandomRunsTest {
    private final Random random;
    private final StreetMarket market = new StreetMarket();
    private final PlainMarket plain = new PlainMarket();
    private final List<String> log = new ArrayList<>();
    private final int size;
    static final Map<String, Integer> OUTCOMES = new HashMap<>();

    private RandomRunsTest(long seed) {
        random = new Random(seed);
        size = random.nextInt(4);
    }

    public static void main(String[] args) throws Exception {
        int runs = args.length > 0 ? Integer.parseInt(args[0]) : 600;
        long first = args.length > 1 ? Long.parseLong(args[1]) : 0;
        int calls = 0;
        for (long seed = first; seed < first + runs; seed++) {
            RandomRunsTest run = new RandomRunsTest(seed);
            if (!run.agrees()) {
                System.out.println("seed " + seed + ":");
                run.log.forEach(System.out::println);
                System.exit(1);
            }
            calls += run.log.size();
        }
        checkVariety(runs);
        System.out.println("RandomRunsTest: " + runs + " runs, " + calls + " calls, all agree");
    }

    /** A run that never reaches a kind of answer tests nothing there. */
    private static void checkVariety(int runs) {
        if (runs < 500) {
            return;
        }
        for (String due : new String[] {"append ISE", "load -2", "load -3", "load -4", "load +", "load IAE", "setRent +",
            "setRent -1", "setClash ISE", "setCovers ISE", "addTrader ISE", "place +", "place ISE", "remove +", "swap +",
            "swap ISE", "clear +", "clashCost +", "coverValue +", "contribution +", "firstCome +", "firstCome IAE",
            "insertionIncome +", "insertionIncome -1", "insert +", "insert ISE", "insert IAE", "undo +", "undo ISE"}) {
            if (!OUTCOMES.containsKey(due)) {
                System.out.println("no random run reached: " + due + " of " + OUTCOMES);
                System.exit(1);
            }
        }
    }

    private boolean agrees() throws Exception {
        List<Method> methods = new ArrayList<>();
        for (Method m : StreetMarket.class.getDeclaredMethods()) {
            if (Modifier.isPublic(m.getModifiers())) {
                methods.add(m);
            }
        }
        methods.sort(Comparator.comparing(Method::getName));
        if (!loadText()) {
            return false;
        }
        for (int used = log.size(); used < 480; used = log.size()) {
            if (random.nextInt(60) == 0) {
                if (!loadText()) {
                    return false;
                }
                continue;
            }
            if (random.nextInt(1000) == 0 && !fillBuffer()) {
                return false;
            }
            Method m = methods.get(random.nextInt(methods.size()));
            int cost = costOf(m.getName());
            if (cost > 1 && random.nextInt(cost) != 0) {
                continue;
            }
            if (!both(m, arguments(m))) {
                return false;
            }
            if (random.nextInt(25) == 0 && !sameState()) {
                log.add("the states differ");
                return false;
            }
        }
        return sameState();
    }

    /** How rarely a call is made that takes PlainMarket long. */
    private int costOf(String name) {
        switch (name) {
            case "load":
                return 8;
            case "append":
                return random.nextInt(10) == 0 ? 1 : 3;
            case "bestRent":
                return market.pitchCount() > 6 || market.traderCount() > 3 ? 1000000 : 8;
            case "bestIncome": case "optimise": case "clashCost": case "coverValue": case "contribution":
            case "insertionIncome": case "insert":
                return market.pitchCount() > 9 || market.traderCount() > 4 ? 6 : 1;
            case "undo":
                return 2;
            default:
                return 1;
        }
    }

    private boolean both(Method m, Object[] arguments) throws Exception {
        Object got = outcome(m, market, arguments);
        Object due = outcome(PlainMarket.class.getMethod(m.getName(), m.getParameterTypes()), plain, arguments);
        log.add(m.getName() + Arrays.toString(arguments) + " answered " + got + ", due is " + due);
        note(m.getName(), due);
        return got == null ? due == null : got.equals(due);
    }

    private static void note(String name, Object due) {
        String kind = due instanceof Integer n ? (n > 0 ? "+" : String.valueOf(n))
            : due == IllegalStateException.class ? "ISE" : due == IllegalArgumentException.class ? "IAE" : "other";
        OUTCOMES.merge(name + " " + kind, 1, Integer::sum);
    }

    private static Object outcome(Method m, Object target, Object[] arguments) throws Exception {
        try {
            return m.invoke(target, arguments);
        } catch (InvocationTargetException e) {
            return e.getCause().getClass();
        }
    }

    private boolean sameState() throws Exception {
        for (String name : new String[] {"row", "rent", "isRoofed", "traderAt", "trade", "frontage", "start"}) {
            Method a = StreetMarket.class.getMethod(name, int.class);
            Method b = PlainMarket.class.getMethod(name, int.class);
            for (int i = -1; i <= 24; i++) {
                if (!outcome(a, market, new Object[] {i}).equals(outcome(b, plain, new Object[] {i}))) {
                    log.add(name + " " + i);
                    return false;
                }
            }
        }
        for (int i = 0; i < 64; i++) {
            if (market.clash(i / 8, i % 8) != plain.clash(i / 8, i % 8)) {
                return false;
            }
        }
        for (int t = 0; t < market.traderCount(); t++) {
            for (int p = 0; p < market.pitchCount(); p++) {
                if (market.obstacle(t, p) != plain.obstacle(t, p)) {
                    log.add("obstacle " + t + " " + p);
                    return false;
                }
            }
        }
        return market.pitchCount() == plain.pitchCount() && market.traderCount() == plain.traderCount()
            && market.income() == plain.income() && market.coversUsed() == plain.coversUsed()
            && market.errorPosition() == plain.errorPosition();
    }

    private Object[] arguments(Method m) {
        Class<?>[] types = m.getParameterTypes();
        Object[] made = new Object[types.length];
        for (int i = 0; i < types.length; i++) {
            if (types[i] == boolean.class) {
                made[i] = random.nextBoolean();
            } else if (types[i] == double.class) {
                double[] some = {0.0, 1.0, -0.0, 0.5, 0.3, Double.NaN, -1e-300, 1.0000000000000002, Double.POSITIVE_INFINITY, 1e-320};
                made[i] = random.nextInt(2) == 0 ? random.nextDouble() : some[random.nextInt(some.length)];
            } else if (types[i] == long.class) {
                made[i] = order();
            } else {
                made[i] = number(m.getName(), i);
            }
        }
        return made;
    }

    private long order() {
        int way = random.nextInt(10);
        if (way == 0) {
            return random.nextLong();
        }
        if (way == 1) {
            return random.nextInt(100);
        }
        List<Integer> traders = new ArrayList<>();
        for (int t = 0; t < market.traderCount(); t++) {
            traders.add(t + 1);
        }
        java.util.Collections.shuffle(traders, random);
        long order = 0;
        for (int t : traders) {
            order = random.nextInt(6) == 0 ? order : order * 10 + t;
        }
        return order;
    }

    private int number(String name, int i) {
        if (random.nextInt(40) == 0) {
            int[] wild = {Integer.MIN_VALUE, Integer.MAX_VALUE, -1, 1000, 9999, 10000, 24, 8, 1 << 30};
            return wild[random.nextInt(wild.length)];
        }
        boolean aboutPitch = name.equals("row") || name.equals("rent") || name.equals("isRoofed") || name.equals("traderAt")
            || name.equals("bestRent") || name.equals("setRent") && i == 0
            || (name.equals("place") || name.equals("obstacle")) && i == 1;
        if (aboutPitch) {
            return random.nextInt(market.pitchCount() + 1) - (random.nextInt(20) == 0 ? 1 : 0);
        }
        switch (name) {
            case "append":
                return random.nextInt();
            case "load":
                return random.nextInt(60) - 1;
            case "setRent":
                return rent() + (random.nextInt(20) == 0 ? random.nextInt(1000) - 1 : 0);
            case "addTrader":
                return i == 0 ? random.nextInt(40) == 0 ? 8 : random.nextInt(4) : i == 1 ? random.nextInt(20) == 0 ? 4 : 1 + random.nextInt(3) : limit();
            case "clash": case "setClash": case "clashCost":
                return random.nextInt(30) == 0 ? 8 : random.nextInt(4 + random.nextInt(5));
            case "setCovers":
                return random.nextInt(6) - random.nextInt(2);
            default:
                break;
        }
        if ((name.equals("insert") || name.equals("insertionIncome")) && i == 1) {
            return random.nextInt(20) == 0 ? 3 : random.nextInt(3);
        }
        return random.nextInt(market.traderCount() + (random.nextInt(6) == 0 ? 1 : 0) + (market.traderCount() == 0 ? 1 : 0));
    }

    private int rent() {
        return random.nextInt(3) == 0 ? 1 + random.nextInt(30) : 1 + random.nextInt(4);
    }

    private int limit() {
        return random.nextInt(3) == 0 ? 1 + random.nextInt(9999) : 1 + random.nextInt(30);
    }

    private boolean loadText() throws Exception {
        byte[] bytes = TestKit.bytes(text());
        if (bytes.length > 600) {
            bytes = Arrays.copyOf(bytes, 600);
        }
        Method append = StreetMarket.class.getMethod("append", int.class, int.class, int.class, int.class, int.class);
        Method load = StreetMarket.class.getMethod("load", int.class);
        // What random calls have left in the buffer goes first; with an empty buffer this throws.
        if (!both(load, new Object[] {1})) {
            return false;
        }
        for (int at = 0; at < bytes.length; at += 20) {
            int[] w = TestKit.five(bytes, at);
            if (!both(append, new Object[] {w[0], w[1], w[2], w[3], w[4]})) {
                return false;
            }
        }
        return both(load, new Object[] {bytes.length}) && sameState();
    }

    private boolean fillBuffer() throws Exception {
        Method append = StreetMarket.class.getMethod("append", int.class, int.class, int.class, int.class, int.class);
        for (int i = 0; i < 31; i++) {
            if (!both(append, new Object[] {0x636c6173, 0x68203220, 0x333b2020, 0x20202020, 0x20202020})) {
                return false;
            }
        }
        return both(StreetMarket.class.getMethod("load", int.class), new Object[] {600});
    }

    private String text() {
        int[] mostPitches = {6, 9, 14, 24};
        int[] mostTraders = {3, 4, 6, 8};
        List<String> lines = new ArrayList<>();
        int left = mostPitches[size];
        boolean excess = random.nextInt(12) == 0;
        int rows = 1 + random.nextInt(excess ? 6 : 4);
        for (int row = 0; row < rows && (left > 0 || excess); row++) {
            int n = excess ? 1 + random.nextInt(13) : 1 + random.nextInt(Math.min(12, left));
            StringBuilder line = new StringBuilder("row");
            for (int i = 0; i < n; i++) {
                line.append(' ').append(rent()).append(random.nextInt(3) == 0 ? "roof" : "");
            }
            left -= n;
            lines.add(line.append(';').toString());
        }
        int trades = 1 + random.nextInt(8);
        int traders = excess ? random.nextInt(11) : random.nextInt(mostTraders[size] + 1);
        for (int t = 0; t < traders; t++) {
            lines.add("trader " + random.nextInt(trades) + "front" + (1 + random.nextInt(3)) + "limit" + limit()
                + (random.nextInt(3) == 0 ? "cover;" : ";"));
        }
        for (int i = random.nextInt(6); i > 0; i--) {
            lines.add("clash " + random.nextInt(trades) + ' ' + random.nextInt(trades) + ';');
        }
        if (random.nextInt(3) > 0) {
            lines.add("covers " + random.nextInt(5) + ";");
        }
        java.util.Collections.shuffle(lines, random);
        StringBuilder all = new StringBuilder(String.join(random.nextBoolean() ? "" : " ", lines));
        if (random.nextInt(4) == 0) {
            spoil(all);
        }
        return all.toString();
    }

    private void spoil(StringBuilder text) {
        String[] parts = {" ", ";", "row", "roof", "trader", "front", "limit", "cover", "covers", "clash", "0", "7", "8",
            "9999", "10000", "99999999999999999999", "x", "A", "\t", "\n", "{", "/", ":", "`", "\u00e9", "00000000000000001", "\u0000"};
        for (int i = 1 + random.nextInt(2); i > 0; i--) {
            int at = random.nextInt(text.length() + 1);
            int way = random.nextInt(4);
            if (way == 0) {
                text.setLength(at);
            } else if (way == 1 && at < text.length()) {
                text.deleteCharAt(at);
            } else {
                text.insert(at, parts[random.nextInt(parts.length)]);
            }
        }
    }
}
