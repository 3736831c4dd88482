import java.lang.management.ManagementFactory;
import java.lang.reflect.Array;
import java.lang.reflect.Field;
import java.lang.reflect.Modifier;
import java.util.Collections;
import java.util.IdentityHashMap;
import java.util.Set;

/** The largest markets, 512 dear calls on one object, and the room that an object takes. */
public final class LimitsTest {
    private static final TestKit KIT = new TestKit();
    private static final int ROOM = 7300000;

    public static void main(String[] args) throws Exception {
        StreetMarket m = largest();
        int best = m.bestIncome();
        for (int call = 0; call < 500; call++) {
            dearCall(m, call);
        }
        KIT.is("the best income stays the same", m.bestIncome(), best);
        long elements = elementsOf(m, Collections.newSetFromMap(new IdentityHashMap<>()));
        KIT.is("an object with the largest tables takes under a tenth of the room: " + elements, elements < ROOM / 10, true);
        long small = elementsOf(new StreetMarket(), Collections.newSetFromMap(new IdentityHashMap<>()));
        KIT.is("a new object is small: " + small, small < 10000, true);
        crowdedInsertion();
        madeByARun();
        KIT.end("LimitsTest");
    }

    private static StreetMarket largest() {
        StringBuilder text = new StringBuilder("covers 4;row 9 8 7 6 5 4 3 2 1 2 3 4;row 5 6 7 8 9 8 7 6 5 4 3 2;");
        for (int t = 0; t < 8; t++) {
            text.append("trader " + t + " front 1 limit 9999 cover;");
        }
        for (int t = 0; t < 7; t++) {
            text.append("clash " + t + ' ' + (t + 1) + ';');
        }
        return TestKit.loaded(text.toString());
    }

    private static void dearCall(StreetMarket m, int call) {
        switch (call % 5) {
            case 0:
                m.setRent(call % 24, m.rent(call % 24));
                m.optimise();
                KIT.is("four covers, four traders", m.coversUsed(), 4);
                break;
            case 1:
                KIT.is("clashCost", m.clashCost(call % 7, call % 7 + 1) >= 0, true);
                break;
            case 2:
                KIT.is("bestRent", m.bestRent(call % 24), 999);
                break;
            case 3:
                KIT.is("a fifth cover", m.coverValue() > 0, true);
                break;
            default:
                KIT.is("contribution", m.contribution(call % 8) >= 0, true);
                break;
        }
    }

    private static void crowdedInsertion() {
        StringBuilder text = new StringBuilder("row 1 1 1 1 1 1 1 1 1 1 1 1;row 1 1 1 1 1 1 1 1 1 1 1 1;");
        for (int t = 0; t < 8; t++) {
            text.append("trader " + t + " front 3 limit 9999;");
        }
        StreetMarket m = TestKit.loaded(text.toString());
        int[] starts = {0, 3, 6, 9, 13, 16, 20};
        for (int t = 0; t < 7; t++) {
            m.place(t, starts[t]);
        }
        KIT.is("three would have to move", m.insertionIncome(7, 1), -1);
        m.remove(6);
        m.place(6, 21);
        KIT.is("two move", m.insertionIncome(7, 1) + " " + m.insert(7, 2), "-1 2");
        KIT.is("a full street, the first placement", TestKit.placement(m), "000111222333444555777666");
        KIT.is("expectedIncome of eight", m.expectedIncome(1.0), 12.0);
        KIT.is("eight come", m.firstCome(87654321L), 24);
        m.setClash(0, 6, true);
        KIT.is("a full street has no clash of 0 and 6", m.clash(6, 0), true);
        KIT.isThrown("6 and 7 stand side by side", IllegalStateException.class, () -> { m.setClash(6, 7, true); return 0; });
    }

    /** A run whose tables grow as often as they can, and then only dear calls: what it makes in all, not what it keeps. */
    private static void madeByARun() {
        com.sun.management.ThreadMXBean bean = (com.sun.management.ThreadMXBean) ManagementFactory.getThreadMXBean();
        String text = "covers 0;row 9 8 7 6 5 4 3 2 1 2 3 4;row 5 6 7 8 9 8 7 6 5 4 3 2;";
        TestKit.loaded(text).bestRent(0);
        long before = bean.getCurrentThreadAllocatedBytes();
        StreetMarket m = TestKit.loaded(text);
        int calls = 5;
        for (int t = 0; t < 8; t++) {
            m.addTrader(t, 1 + t % 3, 9999, true);
            m.bestRent(t);
            m.setClash(t, (t + 1) % 8, true);
            m.bestRent(t);
            m.setCovers(t / 2);
            m.bestRent(t);
            calls += 6;
        }
        m.setCovers(4);
        for (; calls < 511; calls += 2) {
            m.setRent(calls % 24, 1 + calls % 9);
            m.bestRent(calls % 24);
        }
        long made = (bean.getCurrentThreadAllocatedBytes() - before) / Integer.BYTES;
        KIT.is("a run makes under a third of the room in all: " + made, made < ROOM / 3, true);
    }

    private static long elementsOf(Object o, Set<Object> seen) throws IllegalAccessException {
        if (o == null || !seen.add(o)) {
            return 0;
        }
        long sum = 0;
        if (o.getClass().isArray()) {
            sum = Array.getLength(o);
            for (int i = 0; o instanceof Object[] && i < Array.getLength(o); i++) {
                sum += elementsOf(Array.get(o, i), seen);
            }
            return sum;
        }
        for (Field f : o.getClass().getDeclaredFields()) {
            if (!Modifier.isStatic(f.getModifiers())) {
                f.setAccessible(true);
                sum += 1 + (f.getType().isPrimitive() ? 0 : elementsOf(f.get(o), seen));
            }
        }
        return sum;
    }
}
