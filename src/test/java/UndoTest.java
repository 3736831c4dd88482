import java.util.ArrayList;
import java.util.List;

/** Promise 36 and section 6: what is a change, and how changes are undone. */
public final class UndoTest {
    private static final Class<IllegalStateException> ISE = IllegalStateException.class;
    private static final TestKit KIT = new TestKit();
    private static final String TEXT = "row 5 6 7 8; row 9; covers 1; trader 0 front 1 limit 9; trader 1 front 1 limit 9 cover; trader 2 front 2 limit 20;";

    interface Change {
        void make(StreetMarket m);
    }

    public static void main(String[] args) {
        everyChange();
        noChanges();
        sixAreKept();
        changesAfterUndo();
        textAndErrorStay();
        KIT.end("UndoTest");
    }

    private static StreetMarket begun() {
        StreetMarket m = TestKit.loaded(TEXT);
        m.place(0, 0);
        m.place(1, 2);
        return m;
    }

    private static List<Change> changes() {
        List<Change> all = new ArrayList<>();
        all.add(m -> TestKit.load(m, "row 1;"));
        all.add(m -> m.setRent(0, 999));
        all.add(m -> m.setRent(0, 5));
        all.add(m -> m.setClash(0, 3, true));
        all.add(m -> m.setClash(0, 3, false));
        all.add(m -> m.setCovers(3));
        all.add(m -> m.setCovers(1));
        all.add(m -> m.addTrader(1, 1, 1, true));
        all.add(m -> m.remove(0));
        all.add(m -> m.swap(0, 1));
        all.add(StreetMarket::clear);
        all.add(StreetMarket::optimise);
        all.add(m -> m.insert(2, 2));
        all.add(m -> { m.undo(); m.place(1, 4); });
        return all;
    }

    private static void everyChange() {
        int number = 0;
        for (Change change : changes()) {
            StreetMarket m = begun();
            String before = TestKit.state(m);
            int best = m.bestIncome();
            change.make(m);
            if (number == changes().size() - 1) {
                before = TestKit.state(placedOnce());
            }
            KIT.is("undo of change " + number, m.undo(), number == changes().size() - 1 ? 2 : 3);
            KIT.is("state after undo of change " + number, TestKit.state(m), before);
            KIT.is("bestIncome after undo of change " + number, m.bestIncome(), best);
            KIT.is("covers after undo of change " + number, m.setCovers(2), 1);
            number++;
        }
    }

    private static StreetMarket placedOnce() {
        StreetMarket m = TestKit.loaded(TEXT);
        m.place(0, 0);
        return m;
    }

    private static void noChanges() {
        StreetMarket m = begun();
        m.append(0, 0, 0, 0, 0);
        m.load(20);
        m.errorPosition();
        m.bestIncome();
        m.clashCost(0, 1);
        m.coverValue();
        m.contribution(0);
        m.bestRent(0);
        m.firstCome(12L);
        m.insertionIncome(2, 2);
        m.expectedIncome(0.5);
        m.obstacle(2, 0);
        KIT.isThrown("place", ISE, () -> m.place(0, 0));
        KIT.isThrown("swap", ISE, () -> m.swap(0, 0));
        KIT.isThrown("remove", ISE, () -> m.remove(2));
        KIT.isThrown("setCovers", ISE, () -> m.setCovers(0));
        KIT.is("three changes only", m.undo(), 2);
        KIT.is("the second", m.undo(), 1);
        KIT.is("the load", m.undo() + " " + m.pitchCount(), "0 0");
        KIT.isThrown("no more", ISE, m::undo);
        KIT.isThrown("and again no more", ISE, m::undo);
    }

    private static void sixAreKept() {
        StreetMarket m = TestKit.loaded("row 1;");
        for (int rent = 2; rent <= 20; rent++) {
            m.setRent(0, rent);
        }
        for (int left = 5; left >= 0; left--) {
            KIT.is("undo", m.undo(), left);
            KIT.is("rent after undo", m.rent(0), 14 + left);
        }
        KIT.isThrown("a seventh", ISE, m::undo);
        KIT.is("the rent stays", m.rent(0), 14);
    }

    private static void changesAfterUndo() {
        StreetMarket m = TestKit.loaded("row 1;");
        for (int rent = 2; rent <= 9; rent++) {
            m.setRent(0, rent);
        }
        m.undo();
        m.undo();
        m.undo();
        KIT.is("three undone", m.rent(0), 6);
        m.setRent(0, 100);
        KIT.is("the new one, then the old ones", m.undo() + " " + m.rent(0), "3 6");
        KIT.is("an older one", m.undo() + " " + m.rent(0), "2 5");
        for (int rent = 200; rent < 210; rent++) {
            m.setRent(0, rent);
        }
        for (int left = 5; left >= 0; left--) {
            KIT.is("undo again", m.undo() + " " + m.rent(0), left + " " + (203 + left));
        }
        KIT.isThrown("no more", ISE, m::undo);
    }

    private static void textAndErrorStay() {
        StreetMarket m = TestKit.loaded("row 1;");
        m.setRent(0, 2);
        TestKit.load(m, "row x;");
        m.append(0x636f7665, 0x72732034, 0x3b202020, 0x20202020, 0x20202020);
        KIT.is("undo", m.undo(), 1);
        KIT.is("the error position stays", m.errorPosition(), 4);
        KIT.is("the buffer stays", m.load(20), 1);
        KIT.is("it held covers 4", m.setCovers(0), 4);
    }
}
