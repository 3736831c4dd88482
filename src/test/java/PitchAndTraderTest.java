/** Promises 5 to 16: pitches, traders, clashes and covers. */
public final class PitchAndTraderTest {
    private static final Class<IllegalArgumentException> IAE = IllegalArgumentException.class;
    private static final Class<IllegalStateException> ISE = IllegalStateException.class;
    private static final Class<IndexOutOfBoundsException> IOOBE = IndexOutOfBoundsException.class;
    private static final int[] NO_INDEX = {-1, Integer.MIN_VALUE, Integer.MAX_VALUE};
    private static final TestKit KIT = new TestKit();

    public static void main(String[] args) {
        pitches();
        setRent();
        traders();
        addTrader();
        clashes();
        setClashAndPlacement();
        setCovers();
        KIT.end("PitchAndTraderTest");
    }

    private static void pitches() {
        StreetMarket m = TestKit.loaded("row 1 999 roof; row 7roof; row 8 9 10; row 11;");
        KIT.is("pitchCount", m.pitchCount(), 7);
        int[] rows = {0, 0, 1, 2, 2, 2, 3};
        int[] rents = {1, 999, 7, 8, 9, 10, 11};
        for (int p = 0; p < 7; p++) {
            KIT.is("row " + p, m.row(p), rows[p]);
            KIT.is("rent " + p, m.rent(p), rents[p]);
            KIT.is("isRoofed " + p, m.isRoofed(p), p == 1 || p == 2);
        }
        for (int wrong : new int[] {-1, 7, 24, Integer.MIN_VALUE, Integer.MAX_VALUE}) {
            KIT.isThrown("row " + wrong, IOOBE, () -> m.row(wrong));
            KIT.isThrown("rent " + wrong, IOOBE, () -> m.rent(wrong));
            KIT.isThrown("isRoofed " + wrong, IOOBE, () -> m.isRoofed(wrong));
        }
        StreetMarket full = TestKit.loaded("row 1 1 1 1 1 1 1 1 1 1 1 1;row 1 1 1 1 1 1 1 1 1 1 1 2roof;");
        KIT.is("24 pitches", full.pitchCount() + " " + full.rent(23) + " " + full.isRoofed(23) + " " + full.row(12), "24 2 true 1");
        KIT.isThrown("row 24", IOOBE, () -> full.row(24));
    }

    private static void setRent() {
        StreetMarket m = TestKit.loaded("row 5 6 7 8; trader 0 front 2 limit 20; trader 1 front 1 limit 8;");
        m.place(0, 0);
        m.place(1, 3);
        KIT.is("setRent on a free pitch", m.setRent(2, 999), -1);
        KIT.is("rent after", m.rent(2), 999);
        KIT.is("setRent up to the limit", m.setRent(1, 15), -1);
        KIT.is("still placed", m.start(0) + " " + m.income(), "0 28");
        KIT.is("setRent above the limit", m.setRent(1, 16), 0);
        KIT.is("not placed any more", m.start(0) + TestKit.placement(m), "-1...1");
        KIT.is("the rent is set all the same", m.rent(1), 16);
        KIT.is("income afterwards", m.income(), 8);
        KIT.is("setRent to the same", m.setRent(3, 8), -1);
        KIT.is("setRent lower", m.setRent(3, 1), -1);
        KIT.is("income is lower", m.income(), 1);
        String before = TestKit.state(m);
        for (int wrong : new int[] {0, -1, 1000, Integer.MIN_VALUE, Integer.MAX_VALUE}) {
            KIT.isThrown("setRent to " + wrong, IAE, () -> m.setRent(0, wrong));
            KIT.isThrown("both wrong", IOOBE, () -> m.setRent(4, wrong));
        }
        for (int wrong : NO_INDEX) {
            KIT.isThrown("setRent of pitch " + wrong, IOOBE, () -> m.setRent(wrong, 5));
        }
        KIT.is("a throw changes nothing", TestKit.state(m), before);
        KIT.is("6 changes, no more", m.undo(), 5);
        StreetMarket c = TestKit.loaded("row 5 5; trader 0 front 2 limit 10 cover; covers 2;");
        c.place(0, 0);
        KIT.is("setRent frees covers", c.setRent(0, 6) + " " + c.coversUsed() + " " + c.setCovers(0), "0 0 2");
    }

    private static void traders() {
        StreetMarket m = TestKit.loaded("trader 7 front 3 limit 5; trader 0 front 1 limit 5 cover;");
        KIT.is("traderCount", m.traderCount(), 2);
        KIT.is("trades", m.trade(0) + " " + m.trade(1), "7 0");
        KIT.is("frontages", m.frontage(0) + " " + m.frontage(1), "3 1");
        for (int wrong : new int[] {-1, 2, 8, Integer.MIN_VALUE, Integer.MAX_VALUE}) {
            KIT.isThrown("trade " + wrong, IOOBE, () -> m.trade(wrong));
            KIT.isThrown("frontage " + wrong, IOOBE, () -> m.frontage(wrong));
        }
    }

    private static void addTrader() {
        StreetMarket m = TestKit.loaded("row 999 999 999;");
        KIT.is("first", m.addTrader(0, 1, 1, false), 0);
        KIT.is("second", m.addTrader(7, 3, 9999, true), 1);
        KIT.is("not placed", m.start(1), -1);
        KIT.is("its numbers", m.trade(1) + " " + m.frontage(1), "7 3");
        KIT.is("its limit", m.obstacle(0, 0), 4);
        KIT.is("its need", m.obstacle(1, 0), 5);
        int[][] wrong = {{-1, 1, 1}, {8, 1, 1}, {0, 0, 1}, {0, 4, 1}, {0, 1, 0}, {0, 1, 10000}, {0, 1, -5},
            {Integer.MAX_VALUE, 1, 1}, {0, Integer.MIN_VALUE, 1}, {0, 1, Integer.MAX_VALUE}};
        for (int[] w : wrong) {
            KIT.isThrown("addTrader", IAE, () -> m.addTrader(w[0], w[1], w[2], false));
        }
        KIT.is("nobody was added", m.traderCount(), 2);
        for (int i = 2; i < 8; i++) {
            KIT.is("addTrader " + i, m.addTrader(1, 1, 1, false), i);
        }
        KIT.isThrown("a ninth", ISE, () -> m.addTrader(1, 1, 1, false));
        KIT.isThrown("a wrong ninth", IAE, () -> m.addTrader(8, 1, 1, false));
        KIT.is("8 traders", m.traderCount(), 8);
    }

    private static void clashes() {
        StreetMarket m = TestKit.loaded("clash 3 5;");
        KIT.is("clash both ways", m.clash(3, 5) && m.clash(5, 3), true);
        m.setClash(0, 7, true);
        m.setClash(2, 2, true);
        KIT.is("set both ways", m.clash(0, 7) && m.clash(7, 0) && m.clash(2, 2), true);
        KIT.is("no others", m.clash(0, 0) || m.clash(7, 7) || m.clash(2, 0), false);
        m.setClash(7, 0, false);
        m.setClash(2, 2, false);
        KIT.is("unset both ways", m.clash(0, 7) || m.clash(7, 0) || m.clash(2, 2), false);
        KIT.is("others stay", m.clash(5, 3), true);
        for (int wrong : new int[] {-1, 8, 32, Integer.MIN_VALUE, Integer.MAX_VALUE}) {
            KIT.isThrown("clash first", IAE, () -> m.clash(wrong, 0));
            KIT.isThrown("clash second", IAE, () -> m.clash(0, wrong));
            KIT.isThrown("setClash first", IAE, () -> { m.setClash(wrong, 0, true); return 0; });
            KIT.isThrown("setClash second", IAE, () -> { m.setClash(0, wrong, false); return 0; });
        }
        KIT.is("load and four changes", m.undo(), 4);
    }

    private static Object set(StreetMarket m, int a, int b, boolean on) {
        return TestKit.outcome(() -> { m.setClash(a, b, on); return "done"; });
    }

    private static void setClashAndPlacement() {
        StreetMarket m = TestKit.loaded("row 1 1 1 1; row 1 1; trader 0 front 2 limit 9; trader 1 front 1 limit 9;"
            + "trader 2 front 1 limit 9; trader 1 front 1 limit 9;");
        m.place(0, 0);
        m.place(1, 2);
        m.place(2, 3);
        m.place(3, 4);
        String before = TestKit.state(m);
        KIT.is("neighbours 0 1", set(m, 0, 1, true), ISE);
        KIT.is("neighbours 1 0", set(m, 1, 0, true), ISE);
        KIT.is("neighbours 2 1", set(m, 2, 1, true), ISE);
        KIT.is("a throw changes nothing", TestKit.state(m), before);
        KIT.is("not clashing is always possible", set(m, 0, 1, false), "done");
        KIT.is("a trader is no neighbour of itself", set(m, 0, 0, true), "done");
        KIT.is("not side by side", set(m, 0, 2, true), "done");
        KIT.is("two rows do not touch: 2 at 3, 1 at 4", set(m, 1, 1, true), "done");
        m.remove(1);
        KIT.is("once it is gone", set(m, 0, 1, true), "done");
        KIT.is("2 at 3 and 1 at 4 are in two rows", set(m, 2, 1, true), "done");
        KIT.is("setting it again", set(m, 2, 1, true), "done");
        StreetMarket same = TestKit.loaded("row 1 1; trader 4 front 1 limit 1; trader 4 front 1 limit 1;");
        same.place(0, 0);
        same.place(1, 1);
        KIT.is("the same trade twice", set(same, 4, 4, true), ISE);
        KIT.is("another trade", set(same, 4, 5, true), "done");
    }

    private static void setCovers() {
        StreetMarket m = TestKit.loaded("row 1 1roof 1; trader 0 front 3 limit 9 cover; covers 3;");
        KIT.is("setCovers", m.setCovers(2), 3);
        m.place(0, 0);
        KIT.is("covers in use", m.coversUsed(), 2);
        KIT.isThrown("fewer than in use", ISE, () -> m.setCovers(1));
        KIT.is("as many as in use", m.setCovers(2), 2);
        KIT.is("more", m.setCovers(4), 2);
        for (int wrong : new int[] {-1, 5, Integer.MIN_VALUE, Integer.MAX_VALUE}) {
            KIT.isThrown("setCovers " + wrong, IAE, () -> m.setCovers(wrong));
        }
        m.remove(0);
        KIT.is("none", m.setCovers(0), 4);
        KIT.is("none is counted", m.obstacle(0, 0), 5);
    }
}
