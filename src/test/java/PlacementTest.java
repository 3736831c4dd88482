/** Promises 17 to 26: the present placement. */
public final class PlacementTest {
    private static final Class<IllegalArgumentException> IAE = IllegalArgumentException.class;
    private static final Class<IllegalStateException> ISE = IllegalStateException.class;
    private static final Class<IndexOutOfBoundsException> IOOBE = IndexOutOfBoundsException.class;
    private static final int[] NO_INDEX = {-1, 8, 24, Integer.MIN_VALUE, Integer.MAX_VALUE};
    private static final TestKit KIT = new TestKit();

    public static void main(String[] args) {
        whoStandsWhere();
        obstaclesInOrder();
        obstacleEdges();
        placeAndRemove();
        swap();
        swapOfUnequalBlocks();
        swapKeepsRules();
        clear();
        coversUsed();
        expectedIncome();
        KIT.end("PlacementTest");
    }

    private static void whoStandsWhere() {
        StreetMarket m = TestKit.loaded("row 1 2 3 4; row 5 6; trader 0 front 3 limit 99; trader 0 front 1 limit 99;");
        KIT.is("at first", TestKit.placement(m) + m.start(0) + m.start(1), "......-1-1");
        m.place(0, 1);
        m.place(1, 4);
        KIT.is("placement", TestKit.placement(m), ".0001.");
        KIT.is("starts", m.start(0) + " " + m.start(1), "1 4");
        KIT.is("income", m.income(), 14);
        for (int wrong : NO_INDEX) {
            KIT.isThrown("traderAt", IOOBE, () -> m.traderAt(wrong));
            KIT.isThrown("start", IOOBE, () -> m.start(wrong));
        }
        KIT.isThrown("traderAt 6", IOOBE, () -> m.traderAt(6));
        KIT.isThrown("start 2", IOOBE, () -> m.start(2));
    }

    private static void obstaclesInOrder() {
        StreetMarket m = TestKit.loaded("row 5 5 5 5; row 5 5 5; covers 1; clash 0 1;"
            + "trader 0 front 1 limit 9; trader 1 front 2 limit 9 cover; trader 1 front 2 limit 99 cover;"
            + "trader 1 front 1 limit 99; trader 2 front 2 limit 99;");
        m.place(0, 1);
        KIT.is("1 before 2 to 6", m.obstacle(0, 6), 1);
        KIT.is("2 before 3", m.obstacle(1, 3), 2);
        KIT.is("2 at the very end", m.obstacle(1, 6), 2);
        KIT.is("3 before 4: own second pitch", m.obstacle(1, 0), 3);
        KIT.is("3 before 4: own first pitch", m.obstacle(1, 1), 3);
        KIT.is("4 before 5 and 6", m.obstacle(1, 2), 4);
        KIT.is("5 before 6", m.obstacle(2, 2), 5);
        KIT.is("6 on the right of it", m.obstacle(3, 2), 6);
        KIT.is("6 on the left of it", m.obstacle(3, 0), 6);
        KIT.is("not a neighbour", m.obstacle(3, 3), 0);
        KIT.is("another trade", m.obstacle(4, 2), 0);
        for (int wrong : NO_INDEX) {
            KIT.isThrown("obstacle of trader", IOOBE, () -> m.obstacle(wrong, 0));
            KIT.isThrown("obstacle at pitch", IOOBE, () -> m.obstacle(0, wrong));
        }
        KIT.isThrown("obstacle of trader 5", IOOBE, () -> m.obstacle(5, 0));
        KIT.isThrown("obstacle at pitch 7", IOOBE, () -> m.obstacle(0, 7));
    }

    private static void obstacleEdges() {
        StreetMarket m = TestKit.loaded("row 5 5roof; row 5; covers 1; clash 0 0;"
            + "trader 0 front 2 limit 10 cover; trader 0 front 1 limit 5; trader 0 front 1 limit 4;");
        KIT.is("rent as the limit, covers as there are", m.obstacle(0, 0), 0);
        KIT.is("rent one above the limit", m.obstacle(2, 0), 4);
        m.place(0, 0);
        KIT.is("the end of a row parts neighbours", m.obstacle(1, 2), 0);
        m.remove(0);
        m.place(1, 1);
        KIT.is("a trade that clashes with itself", m.obstacle(2, 0), 4);
        m.setRent(0, 4);
        KIT.is("a trade that clashes with itself, affordable", m.obstacle(2, 0), 6);
        m.setClash(0, 0, false);
        KIT.is("clash taken away", m.obstacle(2, 0), 0);
    }

    private static void placeAndRemove() {
        StreetMarket m = TestKit.loaded("row 10 20 30; trader 0 front 2 limit 50; trader 0 front 2 limit 99;");
        KIT.is("place", m.place(0, 1), 50);
        String before = TestKit.state(m);
        KIT.isThrown("place again", ISE, () -> m.place(0, 0));
        KIT.isThrown("place on another", ISE, () -> m.place(1, 0));
        KIT.isThrown("place beyond the row", ISE, () -> m.place(1, 2));
        KIT.isThrown("remove one who is not placed", ISE, () -> m.remove(1));
        for (int wrong : NO_INDEX) {
            KIT.isThrown("place trader", IOOBE, () -> m.place(wrong, 0));
            KIT.isThrown("place at pitch, though it is placed", IOOBE, () -> m.place(0, wrong));
            KIT.isThrown("remove", IOOBE, () -> m.remove(wrong));
        }
        KIT.is("throws change nothing", TestKit.state(m), before);
        KIT.is("remove", m.remove(0), 1);
        KIT.is("all free", TestKit.placement(m) + m.income(), "...0");
        KIT.is("place after remove", m.place(1, 0), 30);
        KIT.is("remove from 0", m.remove(1), 0);
        KIT.is("load and four changes", m.undo(), 4);
    }

    private static void swap() {
        StreetMarket m = TestKit.loaded("row 10 20; row 30; trader 0 front 1 limit 99; trader 1 front 1 limit 99; trader 1 front 1 limit 99;");
        m.place(0, 0);
        m.place(1, 2);
        KIT.is("swap", m.swap(0, 1), 40);
        KIT.is("exchanged", m.start(0) + " " + m.start(1) + " " + TestKit.placement(m), "2 0 1.0");
        KIT.isThrown("swap with itself", ISE, () -> m.swap(0, 0));
        KIT.isThrown("swap with one who is not placed", ISE, () -> m.swap(0, 2));
        KIT.isThrown("swap of one who is not placed", ISE, () -> m.swap(2, 0));
        KIT.isThrown("swap of one who is not placed with itself", ISE, () -> m.swap(2, 2));
        for (int wrong : NO_INDEX) {
            KIT.isThrown("swap first", IOOBE, () -> m.swap(wrong, 0));
            KIT.isThrown("swap second", IOOBE, () -> m.swap(2, wrong));
            KIT.isThrown("swap both", IOOBE, () -> m.swap(wrong, wrong));
        }
        KIT.is("as before", TestKit.placement(m), "1.0");
        KIT.is("load and three changes", m.undo(), 3);
    }

    private static void swapOfUnequalBlocks() {
        StreetMarket m = TestKit.loaded("row 1 2 3 4 5 6; row 7 8; trader 0 front 1 limit 99; trader 0 front 3 limit 99; trader 0 front 2 limit 99;");
        m.place(0, 0);
        m.place(1, 3);
        KIT.is("1 and 3 pitches", m.swap(0, 1), 10);
        KIT.is("their places", TestKit.placement(m), "1110....");
        KIT.is("back", m.swap(1, 0), 16);
        m.place(2, 1);
        KIT.isThrown("there is somebody in the way", ISE, () -> m.swap(0, 1));
        m.remove(2);
        m.remove(0);
        m.place(0, 2);
        KIT.isThrown("the blocks would overlap", ISE, () -> m.swap(0, 1));
        m.remove(0);
        m.place(2, 6);
        KIT.isThrown("beyond the end of the street", ISE, () -> m.swap(1, 2));
        KIT.is("nothing changed", TestKit.placement(m), "...11122");
        m.clear();
        m.place(2, 0);
        m.place(0, 5);
        KIT.isThrown("a block in two rows", ISE, () -> m.swap(2, 0));
    }

    private static void swapKeepsRules() {
        StreetMarket limit = TestKit.loaded("row 10 20; trader 0 front 1 limit 10; trader 0 front 1 limit 20;");
        limit.place(0, 0);
        limit.place(1, 1);
        KIT.isThrown("a limit", ISE, () -> limit.swap(0, 1));
        StreetMarket cover = TestKit.loaded("row 1roof 1 1; covers 1; trader 0 front 1 limit 9 cover; trader 0 front 1 limit 9; trader 0 front 1 limit 9 cover;");
        cover.place(0, 0);
        cover.place(1, 1);
        cover.place(2, 2);
        KIT.isThrown("covers", ISE, () -> cover.swap(0, 1));
        KIT.is("those who both need cover", cover.swap(0, 2), 3);
        StreetMarket clash = TestKit.loaded("row 1 1 1; clash 0 1; trader 0 front 1 limit 9; trader 2 front 1 limit 9; trader 1 front 1 limit 9;");
        clash.place(0, 0);
        clash.place(1, 1);
        clash.place(2, 2);
        KIT.isThrown("a clash", ISE, () -> clash.swap(0, 1));
        KIT.is("no clash", clash.swap(0, 2), 3);
        KIT.is("the order", TestKit.placement(clash), "210");
    }

    private static void clear() {
        StreetMarket m = TestKit.loaded("row 1 1 1; trader 0 front 1 limit 9 cover; trader 0 front 1 limit 9; covers 1;");
        KIT.is("clear nobody", m.clear(), 0);
        m.place(0, 0);
        m.place(1, 2);
        KIT.is("clear two", m.clear(), 2);
        KIT.is("empty", TestKit.placement(m) + m.start(0) + m.income() + m.coversUsed(), "...-100");
        KIT.is("clears are changes", m.undo(), 4);
        KIT.is("and undone", TestKit.placement(m), "0.1");
    }

    private static void coversUsed() {
        StreetMarket m = TestKit.loaded("row 1 1roof 1 1 1; covers 4; trader 0 front 3 limit 9 cover; trader 0 front 2 limit 9 cover; trader 0 front 2 limit 9;");
        KIT.is("none", m.coversUsed(), 0);
        m.place(0, 0);
        KIT.is("two of three", m.coversUsed(), 2);
        m.place(1, 3);
        KIT.is("all four", m.coversUsed(), 4);
        m.remove(1);
        m.place(2, 3);
        KIT.is("who does not need cover uses none", m.coversUsed(), 2);
    }

    private static void expectedIncome() {
        StreetMarket m = TestKit.loaded("row 11 13roof 17roof 19; row 23 29 31; covers 1; trader 0 front 2 limit 99;"
            + "trader 0 front 2 limit 99; trader 0 front 1 limit 99 cover; trader 0 front 1 limit 99; trader 0 front 1 limit 99;");
        KIT.is("nobody", m.expectedIncome(0.7), 0.0);
        m.place(0, 1);
        KIT.is("under a roof", m.expectedIncome(0.7), 30.0);
        m.place(2, 4);
        KIT.is("under a cover", m.expectedIncome(1.0), 53.0);
        m.place(3, 6);
        KIT.is("in the rain", m.expectedIncome(1.0), 68.5);
        KIT.is("in the sun", m.expectedIncome(0.0), 84.0);
        KIT.is("a negative zero", m.expectedIncome(-0.0), 84.0);
        double rain = 0.3;
        KIT.is("step by step", m.expectedIncome(rain), 0.0 + 30 + 23 + (31 * (1.0 - rain) + 31 * 0.5 * rain));
        m.clear();
        m.place(1, 0);
        m.place(4, 5);
        rain = 0.1;
        KIT.is("half a roof is none, by increasing number", m.expectedIncome(rain),
            0.0 + (24 * (1.0 - rain) + 24 * 0.5 * rain) + (29 * (1.0 - rain) + 29 * 0.5 * rain));
        for (double wrong : new double[] {-1e-300, -1.0, 1.0000000000000002, 2.0, Double.NaN, Double.POSITIVE_INFINITY, Double.NEGATIVE_INFINITY, -Double.MIN_VALUE}) {
            KIT.isThrown("rain " + wrong, IAE, () -> m.expectedIncome(wrong));
        }
    }
}
