import java.util.ArrayList;
import java.util.List;

/** The boundary cases of section 6 (changes) and of promise 36, sentence by sentence. */
public final class ChangeEdgesTest {
    private static final Class<IllegalStateException> ISE = IllegalStateException.class;
    private static final int BLANK = 0x20202020;
    private static final TestKit KIT = new TestKit();
    private static final String STREET = "row 5 6 7 8 6; row 9roof; covers 1; clash 5 5; trader 0 front 1 limit 9; trader 0 front 1 limit 9 cover;"
        + "trader 2 front 2 limit 20; trader 3 front 1 limit 9 cover; trader 5 front 1 limit 9 cover; trader 5 front 1 limit 6;";

    interface Step {
        void make(StreetMarket m);
    }

    private record Named(String name, Step step) {
    }

    public static void main(String[] args) {
        everyKindIsAChange();
        alsoIfNothingIsDifferent();
        presentPlacementIsValid();
        noOtherCallIsAChange();
        loadWithAnErrorIsNone();
        sixAndNoMore();
        theLatestFirst();
        allKindsInOneRun();
        nothingToUndo();
        undoneIsGone();
        roundAndRound();
        textBufferStays();
        errorPositionStays();
        manyCalls();
        KIT.end("ChangeEdgesTest");
    }

    /** The traders 0 and 1 stand on the pitches 0 and 2; three changes have been made. */
    private static StreetMarket begun() {
        StreetMarket m = TestKit.loaded(STREET);
        m.place(0, 0);
        m.place(1, 2);
        return m;
    }

    private static List<Named> changes() {
        List<Named> all = new ArrayList<>();
        all.add(new Named("load", m -> TestKit.load(m, "row 1;")));
        all.add(new Named("load of an empty text", m -> m.load(0)));
        all.add(new Named("setRent", m -> m.setRent(1, 999)));
        all.add(new Named("setRent that sends a trader away", m -> m.setRent(0, 10)));
        all.add(new Named("setClash", m -> m.setClash(0, 2, true)));
        all.add(new Named("setClash, not any more", m -> m.setClash(5, 5, false)));
        all.add(new Named("setCovers", m -> m.setCovers(4)));
        all.add(new Named("addTrader", m -> m.addTrader(7, 3, 9999, true)));
        all.add(new Named("place", m -> m.place(3, 5)));
        all.add(new Named("remove", m -> m.remove(1)));
        all.add(new Named("swap", m -> m.swap(0, 1)));
        all.add(new Named("clear", StreetMarket::clear));
        all.add(new Named("optimise", StreetMarket::optimise));
        all.add(new Named("insert", m -> m.insert(2, 2)));
        return all;
    }

    private static void everyKindIsAChange() {
        KIT.says("The changes are: load if the text has no error, setRent, setClash, setCovers, addTrader, place, remove, swap, clear, optimise and insert, if they do not throw.");
        String before = Knowledge.seen(begun());
        for (Named change : changes()) {
            StreetMarket m = begun();
            change.step().make(m);
            KIT.is(change.name() + " makes a difference", !Knowledge.seen(m).equals(before), true);
            KIT.is("undo of " + change.name(), TestKit.outcome(m::undo), 3);
            KIT.is("all after undo of " + change.name(), Knowledge.seen(m), before);
            KIT.is("covers after undo of " + change.name(), m.setCovers(1), 1);
            // The plan that was made before the change must not be taken for one of the market after it.
            StreetMarket planned = begun();
            planned.bestIncome();
            change.step().make(planned);
            StreetMarket fresh = begun();
            change.step().make(fresh);
            KIT.is("all after " + change.name() + ", planned before", Knowledge.seen(planned), Knowledge.seen(fresh));
        }
    }

    private static List<Named> idleChanges() {
        List<Named> all = new ArrayList<>();
        all.add(new Named("setRent to the same", m -> m.setRent(0, 5)));
        all.add(new Named("setClash of a clash", m -> m.setClash(5, 5, true)));
        all.add(new Named("setClash of no clash", m -> m.setClash(0, 1, false)));
        all.add(new Named("setCovers to the same", m -> m.setCovers(1)));
        all.add(new Named("clear of nobody", StreetMarket::clear));
        all.add(new Named("load of the same text", m -> TestKit.load(m, STREET)));
        return all;
    }

    private static void alsoIfNothingIsDifferent() {
        KIT.says("A call counts as a change also if nothing is different afterwards.");
        for (Named change : idleChanges()) {
            StreetMarket m = TestKit.loaded(STREET);
            String before = Knowledge.seen(m);
            change.step().make(m);
            KIT.is("all after " + change.name(), Knowledge.seen(m), before);
            KIT.is("undo of " + change.name(), TestKit.outcome(m::undo), 1);
            KIT.is("all after undo of " + change.name(), Knowledge.seen(m), before);
        }
        StreetMarket best = TestKit.loaded(STREET);
        best.optimise();
        String before = Knowledge.seen(best);
        best.optimise();
        KIT.is("undo of a second optimise", best.undo(), 2);
        KIT.is("all after it", Knowledge.seen(best), before);
        StreetMarket empty = new StreetMarket();
        empty.load(0);
        empty.clear();
        empty.optimise();
        empty.setCovers(0);
        empty.setClash(0, 0, false);
        KIT.is("five changes of an empty market", empty.undo(), 4);
    }

    private static void presentPlacementIsValid() {
        KIT.says("The market has a present placement, which is always valid.");
        for (Named first : changes()) {
            for (Named second : changes()) {
                StreetMarket m = begun();
                first.step().make(m);
                TestKit.outcome(() -> { second.step().make(m); return 0; });
                String name = first.name() + ", then " + second.name();
                KIT.is("valid after " + name, isValid(m), true);
                m.undo();
                KIT.is("valid after undo of " + name, isValid(m), true);
            }
        }
    }

    /** In a valid placement each trader that is taken out of it could be placed again just where it stood. */
    private static boolean isValid(StreetMarket m) {
        int covers = m.setCovers(4);
        m.undo();
        int pitches = 0;
        for (int t = 0; t < m.traderCount(); t++) {
            int start = m.start(t);
            if (start >= 0) {
                pitches += m.frontage(t);
                m.remove(t);
                boolean possible = m.obstacle(t, start) == 0;
                m.undo();
                if (!possible) {
                    return false;
                }
            }
        }
        return m.coversUsed() <= covers && TestKit.placement(m).replace(".", "").length() == pitches;
    }

    private static void noOtherCallIsAChange() {
        KIT.says("The changes are");
        StreetMarket m = begun();
        m.append(BLANK, BLANK, BLANK, BLANK, BLANK);
        m.errorPosition();
        m.pitchCount();
        m.row(0);
        m.rent(0);
        m.isRoofed(0);
        m.traderCount();
        m.trade(0);
        m.frontage(0);
        m.clash(0, 0);
        m.traderAt(0);
        m.start(0);
        m.obstacle(2, 0);
        m.income();
        m.coversUsed();
        m.expectedIncome(0.5);
        m.bestIncome();
        m.clashCost(5, 5);
        m.coverValue();
        m.contribution(0);
        m.bestRent(0);
        m.firstCome(21);
        m.insertionIncome(2, 2);
        KIT.is("undo", m.undo() + TestKit.placement(m), "20.....");
    }

    private static void loadWithAnErrorIsNone() {
        KIT.says("load if the text has no error");
        StreetMarket m = begun();
        for (String text : new String[] {"x", "row 0;", "row 1;row 1;row 1;row 1;row 1;", "row 1"}) {
            KIT.is("an error", TestKit.load(m, text) < 0, true);
        }
        KIT.is("undo", m.undo() + TestKit.placement(m), "20.....");
    }

    private static void sixAndNoMore() {
        KIT.says("The latest 6 changes can be undone");
        for (int made = 0; made <= 20; made++) {
            StreetMarket m = new StreetMarket();
            for (int i = 0; i < made; i++) {
                m.setCovers(i % 5);
            }
            int can = Math.min(made, 6);
            for (int left = can - 1; left >= 0; left--) {
                KIT.is("undo after " + made + " changes", TestKit.outcome(m::undo), left);
            }
            KIT.isThrown("one more undo after " + made + " changes", ISE, m::undo);
            // The changes that are left made the covers what they are.
            int kept = made - can;
            KIT.is("covers after " + made + " changes and all undone", m.setCovers(0), kept == 0 ? 0 : (kept - 1) % 5);
        }
    }

    private static void theLatestFirst() {
        KIT.says("the latest one first.");
        StreetMarket m = TestKit.loaded("row 1;");
        for (int rent = 2; rent <= 7; rent++) {
            m.setRent(0, rent);
        }
        for (int rent = 6; rent >= 1; rent--) {
            m.undo();
            KIT.is("rent", m.rent(0), rent);
        }
        KIT.isThrown("the load has fallen out", ISE, m::undo);
        KIT.is("and stays", m.pitchCount() + " " + m.rent(0), "1 1");
    }

    private static void allKindsInOneRun() {
        KIT.says("Undoes the latest change that has not been undone.");
        List<Named> all = changes();
        // Those after a load would find another market.
        List<Named> some = all.subList(2, all.size());
        StreetMarket m = begun();
        List<String> before = new ArrayList<>();
        for (Named change : some) {
            before.add(Knowledge.seen(m));
            if (TestKit.outcome(() -> { change.step().make(m); return 0; }) instanceof Class) {
                before.remove(before.size() - 1);
            }
        }
        KIT.is("enough changes were made: " + before.size(), before.size() > 6, true);
        for (int left = 5; left >= 0; left--) {
            KIT.is("undo", TestKit.outcome(m::undo), left);
            KIT.is("all after it", Knowledge.seen(m), before.remove(before.size() - 1));
        }
        KIT.isThrown("no more", ISE, m::undo);
    }

    private static void nothingToUndo() {
        KIT.says("Throws IllegalStateException if there is no change to undo");
        StreetMarket m = new StreetMarket();
        KIT.isThrown("a new object", ISE, m::undo);
        KIT.isThrown("and again", ISE, m::undo);
        m.setCovers(3);
        KIT.is("one change", m.undo(), 0);
        KIT.isThrown("it is undone", ISE, m::undo);
        KIT.is("a change afterwards", m.setCovers(2) + " " + m.undo(), "0 0");
        KIT.isThrown("undone too", ISE, m::undo);
        KIT.isThrown("a call that throws", IllegalArgumentException.class, () -> m.setCovers(5));
        KIT.isThrown("is nothing to undo", ISE, m::undo);
        TestKit.load(m, "x");
        KIT.isThrown("nor is a text with an error", ISE, m::undo);
    }

    private static void undoneIsGone() {
        KIT.says("Undoes the latest change that has not been undone.");
        StreetMarket m = TestKit.loaded("row 1;");
        m.setRent(0, 2);
        m.setRent(0, 3);
        m.undo();
        m.setRent(0, 4);
        KIT.is("the new one", m.undo() + " " + m.rent(0), "2 2");
        KIT.is("not the one that has been undone", m.undo() + " " + m.rent(0), "1 1");
        KIT.is("the load", m.undo() + " " + m.pitchCount(), "0 0");
        KIT.isThrown("no more", ISE, m::undo);
    }

    /** Changes and undos by turns, against a list of the rents that were before: it is never longer than 6. */
    private static void roundAndRound() {
        KIT.says("Returns the number of changes that can still be undone.");
        for (int way = 1; way <= 7; way++) {
            StreetMarket m = TestKit.loaded("row 1;");
            List<Integer> before = new ArrayList<>();
            before.add(-1);
            for (int i = 0; i < 60; i++) {
                boolean forth = i % (way + 3) < way || before.size() <= 1;
                if (forth) {
                    before.add(m.rent(0));
                    m.setRent(0, 2 + i);
                    if (before.size() > 6) {
                        before.remove(0);
                    }
                } else {
                    int due = before.remove(before.size() - 1);
                    KIT.is("undo, way " + way + ", step " + i, m.undo(), before.size());
                    KIT.is("rent, way " + way + ", step " + i, m.rent(0), due);
                }
            }
        }
    }

    private static void textBufferStays() {
        KIT.says("The text buffer and the error position are not affected.");
        StreetMarket m = TestKit.loaded("row 1;");
        m.append(0x636f7665, 0x72732034, 0x3b202020, BLANK, BLANK);
        m.undo();
        KIT.is("20 bytes are in it still", m.append(BLANK, BLANK, BLANK, BLANK, BLANK), 40);
        KIT.is("and are read", m.load(40) + " " + m.setCovers(0), "1 4");
        StreetMarket n = new StreetMarket();
        n.append(0x636f7665, 0x72732034, 0x3b202020, BLANK, BLANK);
        n.load(20);
        n.undo();
        KIT.isThrown("undo of load does not bring the text back", IllegalArgumentException.class, () -> n.load(1));
    }

    private static void errorPositionStays() {
        KIT.says("The text buffer and the error position are not affected.");
        StreetMarket m = TestKit.loaded("row 1;");
        TestKit.load(m, "row x;");
        KIT.is("after undo", m.undo() + " " + m.errorPosition(), "0 4");
        TestKit.load(m, "row 1;");
        m.undo();
        KIT.is("an undone load without an error has none", m.errorPosition(), -1);
        KIT.isThrown("an undo that throws", ISE, m::undo);
        KIT.is("after it", m.errorPosition(), -1);
    }

    private static void manyCalls() {
        KIT.says("An object is used for at most 512 calls after it has been made");
        StreetMarket m = new StreetMarket();
        for (int i = 1; i <= 512; i++) {
            KIT.is("call " + i, m.setCovers(i % 5), (i - 1) % 5);
        }
        StreetMarket n = new StreetMarket();
        for (int i = 1; i <= 256; i++) {
            n.setCovers(3);
            KIT.is("undo " + i, n.undo(), 0);
        }
        StreetMarket p = TestKit.loaded("row 1 2 3; trader 0 front 1 limit 9; trader 0 front 2 limit 9;");
        for (int i = 1; i <= 255; i++) {
            KIT.is("optimise " + i, p.optimise(), 2);
            KIT.is("clear " + i, p.clear(), 2);
        }
    }
}
