import java.util.LinkedHashMap;
import java.util.Map;
import java.util.function.Function;

/**
 * A question, a refused call and a text with an error leave no trace: whatever call comes next answers, and changes the
 * market, as it does on a twin that was not asked.
 */
public final class TracesTest {
    private static final TestKit KIT = new TestKit();
    private static final String SHED = "row 3 9roof 4; row 8roof 5 6 2; covers 3; clash 0 1; clash 2 2;"
        + "trader 0 front 1 limit 9 cover; trader 1 front 2 limit 12 cover; trader 2 front 2 limit 14; trader 2 front 1 limit 8;";
    private static final String LANE = "row 7 7 7roof 7 2; covers 2; clash 0 0; trader 0 front 1 limit 7 cover;"
        + "trader 0 front 1 limit 9 cover; trader 3 front 3 limit 21;";
    private static final String[] NEXT_TEXTS = {"", "row 6 4 2; trader 5 front 2 limit 10 cover; covers 2;", SHED, LANE,
        "row 1roof 2 3 4; row 5; row 6 7roof; covers 1; clash 0 1; clash 1 1; trader 1 front 1 limit 9 cover;"
            + "trader 1 front 1 limit 9; trader 0 front 3 limit 99 cover; trader 4 front 2 limit 12; trader 7 front 1 limit 7;"};

    public static void main(String[] args) {
        compare("the shed", () -> {
            StreetMarket m = TestKit.loaded(SHED);
            m.place(0, 2);
            m.place(1, 4);
            return m;
        });
        compare("the lane", () -> {
            StreetMarket m = TestKit.loaded(LANE);
            m.optimise();
            return m;
        });
        compare("the lane, with a late comer to come", () -> {
            StreetMarket m = TestKit.loaded(LANE);
            m.place(1, 4);
            m.place(2, 0);
            return m;
        });
        KIT.end("TracesTest");
    }

    private static void compare(String name, java.util.function.Supplier<StreetMarket> maker) {
        StreetMarket first = maker.get();
        Map<String, Function<StreetMarket, Object>> traceless = traceless(first);
        Map<String, Function<StreetMarket, Object>> next = changes(first);
        next.putAll(traceless);
        for (Map.Entry<String, Function<StreetMarket, Object>> then : next.entrySet()) {
            String due = told(maker.get(), then.getValue());
            for (Map.Entry<String, Function<StreetMarket, Object>> before : traceless.entrySet()) {
                StreetMarket m = maker.get();
                outcome(m, before.getValue());
                KIT.is(name + ": " + before.getKey() + ", then " + then.getKey(), told(m, then.getValue()), due);
            }
        }
    }

    /** The outcome of a call, and all that can be seen then; a text with an error at 0 makes the error positions equal. */
    private static String told(StreetMarket m, Function<StreetMarket, Object> call) {
        Object outcome = outcome(m, call);
        TestKit.load(m, "?");
        return outcome + " " + Knowledge.seen(m);
    }

    private static Object outcome(StreetMarket m, Function<StreetMarket, Object> call) {
        return TestKit.outcome(() -> call.apply(m));
    }

    private static Map<String, Function<StreetMarket, Object>> traceless(StreetMarket first) {
        Map<String, Function<StreetMarket, Object>> calls = new LinkedHashMap<>();
        for (String text : new String[] {"?", SHED + "row", "covers 4; clash 3 4; trader 3 front 1 limit 5 cover; row 5 5 1000;"}) {
            calls.put("a text with an error " + text, m -> TestKit.load(m, text) < 0);
        }
        calls.put("bestIncome", StreetMarket::bestIncome);
        calls.put("coverValue", StreetMarket::coverValue);
        calls.put("clashCost(0, 1)", m -> m.clashCost(0, 1));
        calls.put("clashCost(0, 0)", m -> m.clashCost(0, 0));
        calls.put("expectedIncome", m -> m.expectedIncome(0.25));
        calls.put("firstCome", m -> m.firstCome(312));
        calls.put("a wrong firstCome", m -> m.firstCome(3123));
        for (int p = 0; p <= first.pitchCount(); p++) {
            int pitch = p;
            calls.put("bestRent(" + p + ")", m -> m.bestRent(pitch));
            calls.put("a wrong setRent(" + p + ")", m -> m.setRent(pitch, 1000));
        }
        for (int t = 0; t < first.traderCount(); t++) {
            int trader = t;
            calls.put("contribution(" + t + ")", m -> m.contribution(trader));
            calls.put("insertionIncome(" + t + ")", m -> m.insertionIncome(trader, 2));
            calls.put("a wrong insert(" + t + ")", m -> m.insert(trader, 3));
            calls.put("a wrong swap(" + t + ")", m -> m.swap(trader, trader));
        }
        calls.put("a wrong setCovers", m -> m.setCovers(5));
        return calls;
    }

    private static Map<String, Function<StreetMarket, Object>> changes(StreetMarket first) {
        Map<String, Function<StreetMarket, Object>> calls = new LinkedHashMap<>();
        for (String text : NEXT_TEXTS) {
            calls.put("load " + text, m -> TestKit.load(m, text));
        }
        calls.put("optimise", StreetMarket::optimise);
        calls.put("clear", StreetMarket::clear);
        calls.put("undo", StreetMarket::undo);
        calls.put("setRent", m -> m.setRent(2, 8));
        calls.put("addTrader", m -> m.addTrader(1, 1, 9, true));
        calls.put("setClash", m -> { m.setClash(1, 3, true); return 0; });
        calls.put("setClash off", m -> { m.setClash(0, 1, false); return 0; });
        calls.put("setCovers", m -> m.setCovers(4));
        for (int t = 0; t < first.traderCount(); t++) {
            int trader = t;
            calls.put("remove(" + t + ")", m -> m.remove(trader));
            calls.put("insert(" + t + ")", m -> m.insert(trader, 2));
            calls.put("swap(" + t + ")", m -> m.swap(trader, 1));
            calls.put("place(" + t + ")", m -> m.place(trader, 1));
        }
        return calls;
    }
}
