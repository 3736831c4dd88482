import java.util.function.Supplier;

/**
 * "A method that throws an exception changes nothing. If several exceptions apply, the one named first is thrown.":
 * every exception that a promise names, each on an object of which all that can be told is compared with a twin's.
 */
public final class RefusalTest {
    private static final Class<IllegalArgumentException> IAE = IllegalArgumentException.class;
    private static final Class<IllegalStateException> ISE = IllegalStateException.class;
    private static final Class<IndexOutOfBoundsException> IOOBE = IndexOutOfBoundsException.class;
    private static final int MIN = Integer.MIN_VALUE;
    private static final int MAX = Integer.MAX_VALUE;
    private static final int BLANK = 0x20202020;
    private static final TestKit KIT = new TestKit();

    interface Refused {
        Object make(StreetMarket m);
    }

    private final String name;
    private final Supplier<StreetMarket> maker;
    private final String knowledge;

    private RefusalTest(String name, Supplier<StreetMarket> maker) {
        this.name = name;
        this.maker = maker;
        knowledge = Knowledge.all(maker);
    }

    public static void main(String[] args) {
        KIT.says("A method that throws an exception changes nothing. If several exceptions apply, the one named first is thrown.");
        RefusalTest fresh = new RefusalTest("a new object", StreetMarket::new);
        RefusalTest busy = new RefusalTest("a busy market", RefusalTest::busy);
        RefusalTest full = new RefusalTest("a full market", RefusalTest::full);
        onANewObject(fresh);
        setup(busy, full);
        pitches(busy);
        pitches(full);
        traders(busy);
        traders(full);
        setRent(busy);
        addTrader(busy, full);
        trades(busy);
        trades(full);
        setClash(busy);
        setCovers(busy);
        obstacleAndPlace(busy);
        remove(busy);
        swap(busy);
        expectedIncome(busy);
        firstCome(busy, full);
        insertion(busy);
        insertion(full);
        undo();
        KIT.end("RefusalTest");
    }

    /**
     * The traders 0, 1, 2 and 3 stand: 0 0 1 . 2 and, in the second row, 3 . . with both covers in use; more changes than
     * can be undone have been made, a text had an error at 4, and 20 bytes are in the buffer.
     */
    private static StreetMarket busy() {
        StreetMarket m = TestKit.loaded("row 5 6 7 8 9; row 4 3roof 2; covers 2; clash 4 5; trader 0 front 2 limit 12;"
            + "trader 1 front 1 limit 7 cover; trader 2 front 1 limit 9; trader 4 front 1 limit 9 cover;"
            + "trader 5 front 1 limit 9; trader 3 front 3 limit 99 cover; trader 6 front 2 limit 1;");
        m.setRent(7, 1);
        m.setClash(7, 7, true);
        m.place(0, 0);
        m.place(1, 2);
        m.place(2, 4);
        m.place(3, 5);
        m.bestIncome();
        TestKit.load(m, "row x;");
        m.append(0x636f7665, 0x72732034, 0x3b202020, BLANK, BLANK);
        return m;
    }

    /** The most pitches, traders, covers, bytes and changes; seven traders stand. */
    private static StreetMarket full() {
        StreetMarket m = TestKit.loaded("row 1 2 3 4 5 6 7 8 9 10 11 12;row 1 2 3 4 5 6 7 8 9 10 11 12roof;covers 4;"
            + "trader 0 front 3 limit 99;".repeat(4) + "trader 7 front 3 limit 99;".repeat(2) + "trader 7 front 1 limit 99 cover;trader 7 front 3 limit 99;");
        for (int t = 0; t < 7; t++) {
            m.place(t, 3 * t);
        }
        for (int i = 0; i < 30; i++) {
            m.append(0x636c6173, 0x68203120, 0x323b2020, BLANK, BLANK);
        }
        return m;
    }

    private void refuses(String what, Class<? extends RuntimeException> due, Refused call) {
        KIT.isThrown(what + " of " + name, due, () -> call.make(maker.get()));
        String after = Knowledge.all(() -> {
            StreetMarket m = maker.get();
            TestKit.outcome(() -> call.make(m));
            return m;
        });
        KIT.is("all that can be told after " + what + " of " + name, after, knowledge);
    }

    private static Object setClash(StreetMarket m, int first, int second, boolean on) {
        m.setClash(first, second, on);
        return "set";
    }

    private static void onANewObject(RefusalTest on) {
        on.refuses("load(1)", IAE, m -> m.load(1));
        on.refuses("load(-1)", IAE, m -> m.load(-1));
        on.refuses("row(0)", IOOBE, m -> m.row(0));
        on.refuses("rent(0)", IOOBE, m -> m.rent(0));
        on.refuses("isRoofed(0)", IOOBE, m -> m.isRoofed(0));
        on.refuses("setRent(0, 1)", IOOBE, m -> m.setRent(0, 1));
        on.refuses("setRent(0, 0)", IOOBE, m -> m.setRent(0, 0));
        on.refuses("trade(0)", IOOBE, m -> m.trade(0));
        on.refuses("frontage(0)", IOOBE, m -> m.frontage(0));
        on.refuses("addTrader(0, 0, 0)", IAE, m -> m.addTrader(0, 0, 0, true));
        on.refuses("clash(8, 0)", IAE, m -> m.clash(8, 0));
        on.refuses("setClash(0, 8)", IAE, m -> setClash(m, 0, 8, true));
        on.refuses("setCovers(5)", IAE, m -> m.setCovers(5));
        on.refuses("traderAt(0)", IOOBE, m -> m.traderAt(0));
        on.refuses("start(0)", IOOBE, m -> m.start(0));
        on.refuses("obstacle(0, 0)", IOOBE, m -> m.obstacle(0, 0));
        on.refuses("place(0, 0)", IOOBE, m -> m.place(0, 0));
        on.refuses("remove(0)", IOOBE, m -> m.remove(0));
        on.refuses("swap(0, 0)", IOOBE, m -> m.swap(0, 0));
        on.refuses("expectedIncome(2)", IAE, m -> m.expectedIncome(2));
        on.refuses("clashCost(0, 8)", IAE, m -> m.clashCost(0, 8));
        on.refuses("contribution(0)", IOOBE, m -> m.contribution(0));
        on.refuses("bestRent(0)", IOOBE, m -> m.bestRent(0));
        on.refuses("firstCome(1)", IAE, m -> m.firstCome(1));
        on.refuses("insertionIncome(0, 0)", IOOBE, m -> m.insertionIncome(0, 0));
        on.refuses("insert(0, 0)", IOOBE, m -> m.insert(0, 0));
        on.refuses("undo()", ISE, StreetMarket::undo);
    }

    private static void setup(RefusalTest busy, RefusalTest full) {
        full.refuses("append", ISE, m -> m.append(0, 0, 0, 0, 0));
        full.refuses("append of text", ISE, m -> m.append(0x636f7665, 0x7273203b, BLANK, BLANK, BLANK));
        for (int wrong : new int[] {-1, 601, MIN, MAX}) {
            full.refuses("load(" + wrong + ")", IAE, m -> m.load(wrong));
        }
        for (int wrong : new int[] {-1, 21, 600, MIN, MAX}) {
            busy.refuses("load(" + wrong + ")", IAE, m -> m.load(wrong));
        }
    }

    private static void pitches(RefusalTest on) {
        int count = on.maker.get().pitchCount();
        for (int wrong : new int[] {-1, count, MIN, MAX}) {
            on.refuses("row(" + wrong + ")", IOOBE, m -> m.row(wrong));
            on.refuses("rent(" + wrong + ")", IOOBE, m -> m.rent(wrong));
            on.refuses("isRoofed(" + wrong + ")", IOOBE, m -> m.isRoofed(wrong));
            on.refuses("setRent(" + wrong + ", 5)", IOOBE, m -> m.setRent(wrong, 5));
            on.refuses("setRent(" + wrong + ", 1000), both wrong", IOOBE, m -> m.setRent(wrong, 1000));
            on.refuses("traderAt(" + wrong + ")", IOOBE, m -> m.traderAt(wrong));
            on.refuses("obstacle(0, " + wrong + ")", IOOBE, m -> m.obstacle(0, wrong));
            on.refuses("place(4, " + wrong + ")", IOOBE, m -> m.place(4, wrong));
            on.refuses("bestRent(" + wrong + ")", IOOBE, m -> m.bestRent(wrong));
        }
    }

    private static void traders(RefusalTest on) {
        int count = on.maker.get().traderCount();
        for (int wrong : new int[] {-1, count, MIN, MAX}) {
            on.refuses("trade(" + wrong + ")", IOOBE, m -> m.trade(wrong));
            on.refuses("frontage(" + wrong + ")", IOOBE, m -> m.frontage(wrong));
            on.refuses("start(" + wrong + ")", IOOBE, m -> m.start(wrong));
            on.refuses("obstacle(" + wrong + ", 0)", IOOBE, m -> m.obstacle(wrong, 0));
            on.refuses("place(" + wrong + ", 3), both wrong or not", IOOBE, m -> m.place(wrong, 3));
            on.refuses("remove(" + wrong + ")", IOOBE, m -> m.remove(wrong));
            on.refuses("swap(" + wrong + ", 0)", IOOBE, m -> m.swap(wrong, 0));
            on.refuses("swap(0, " + wrong + ")", IOOBE, m -> m.swap(0, wrong));
            on.refuses("swap of the same " + wrong, IOOBE, m -> m.swap(wrong, wrong));
            on.refuses("contribution(" + wrong + ")", IOOBE, m -> m.contribution(wrong));
        }
    }

    private static void setRent(RefusalTest busy) {
        for (int wrong : new int[] {0, -1, 1000, MIN, MAX}) {
            busy.refuses("setRent(3, " + wrong + ")", IAE, m -> m.setRent(3, wrong));
            busy.refuses("setRent(0, " + wrong + ") where a trader stands", IAE, m -> m.setRent(0, wrong));
        }
    }

    private static void addTrader(RefusalTest busy, RefusalTest full) {
        int[][] wrong = {{-1, 1, 1}, {8, 1, 1}, {0, 0, 1}, {0, 4, 1}, {0, 1, 0}, {0, 1, 10000}, {MIN, 1, 1}, {0, MAX, 1}, {0, 1, MIN}};
        for (int[] w : wrong) {
            busy.refuses("addTrader(" + w[0] + ", " + w[1] + ", " + w[2] + ")", IAE, m -> m.addTrader(w[0], w[1], w[2], false));
            full.refuses("addTrader(" + w[0] + ", " + w[1] + ", " + w[2] + "), a ninth", IAE, m -> m.addTrader(w[0], w[1], w[2], true));
        }
        full.refuses("addTrader", ISE, m -> m.addTrader(0, 1, 1, false));
        full.refuses("addTrader of the greatest numbers", ISE, m -> m.addTrader(7, 3, 9999, true));
    }

    private static void trades(RefusalTest on) {
        for (int wrong : new int[] {-1, 8, MIN, MAX}) {
            on.refuses("clash(" + wrong + ", 0)", IAE, m -> m.clash(wrong, 0));
            on.refuses("clash(7, " + wrong + ")", IAE, m -> m.clash(7, wrong));
            on.refuses("clashCost(" + wrong + ", 0)", IAE, m -> m.clashCost(wrong, 0));
            on.refuses("clashCost(7, " + wrong + ")", IAE, m -> m.clashCost(7, wrong));
            on.refuses("setClash(" + wrong + ", 0)", IAE, m -> setClash(m, wrong, 0, true));
            on.refuses("setClash(7, " + wrong + ")", IAE, m -> setClash(m, 7, wrong, true));
            on.refuses("setClash(7, " + wrong + "), not to clash", IAE, m -> setClash(m, 7, wrong, false));
        }
    }

    private static void setClash(RefusalTest busy) {
        busy.refuses("setClash of neighbours", ISE, m -> setClash(m, 0, 1, true));
        busy.refuses("setClash of neighbours, the other way round", ISE, m -> setClash(m, 1, 0, true));
    }

    private static void setCovers(RefusalTest busy) {
        busy.refuses("setCovers(1)", ISE, m -> m.setCovers(1));
        busy.refuses("setCovers(0)", ISE, m -> m.setCovers(0));
        busy.refuses("setCovers(-1), fewer than in use too", IAE, m -> m.setCovers(-1));
        busy.refuses("setCovers(MIN), fewer than in use too", IAE, m -> m.setCovers(MIN));
        busy.refuses("setCovers(5)", IAE, m -> m.setCovers(5));
        busy.refuses("setCovers(MAX)", IAE, m -> m.setCovers(MAX));
    }

    private static void obstacleAndPlace(RefusalTest busy) {
        busy.refuses("place of a placed trader where none is, both wrong", IOOBE, m -> m.place(0, 8));
        busy.refuses("place, obstacle 1", ISE, m -> m.place(0, 3));
        busy.refuses("place, obstacle 2", ISE, m -> m.place(5, 6));
        busy.refuses("place, obstacle 3", ISE, m -> m.place(4, 4));
        busy.refuses("place, obstacle 4", ISE, m -> m.place(6, 6));
        busy.refuses("place, obstacle 6", ISE, m -> m.place(4, 6));
        RefusalTest dry = new RefusalTest("a market without covers", () -> {
            StreetMarket m = TestKit.loaded("row 1 1 1; covers 1; trader 0 front 2 limit 9 cover;");
            m.setRent(0, 2);
            return m;
        });
        dry.refuses("place, obstacle 5", ISE, m -> m.place(0, 0));
        StreetMarket told = busy.maker.get();
        KIT.is("these are the obstacles", "" + told.obstacle(0, 3) + told.obstacle(5, 6) + told.obstacle(4, 4) + told.obstacle(6, 6)
            + dry.maker.get().obstacle(0, 0) + told.obstacle(4, 6), "123456");
    }

    private static void remove(RefusalTest busy) {
        for (int trader : new int[] {4, 5, 6}) {
            busy.refuses("remove(" + trader + "), not placed", ISE, m -> m.remove(trader));
        }
    }

    private static void swap(RefusalTest busy) {
        busy.refuses("swap of the same", ISE, m -> m.swap(0, 0));
        busy.refuses("swap of the same, not placed", ISE, m -> m.swap(4, 4));
        busy.refuses("swap, the second is not placed", ISE, m -> m.swap(0, 4));
        busy.refuses("swap, the first is not placed", ISE, m -> m.swap(4, 0));
        busy.refuses("swap above a limit", ISE, m -> m.swap(1, 2));
        busy.refuses("swap above the limit of a block", ISE, m -> m.swap(0, 1));
        busy.refuses("swap beyond the row", ISE, m -> m.swap(0, 2));
        busy.refuses("swap beyond the row, the other way round", ISE, m -> m.swap(2, 0));
        RefusalTest dry = new RefusalTest("a market with a roof", () -> {
            StreetMarket m = TestKit.loaded("row 1roof 1 1; clash 0 1; trader 0 front 1 limit 9 cover; trader 2 front 1 limit 9; trader 1 front 1 limit 9;");
            m.place(0, 0);
            m.place(1, 1);
            m.place(2, 2);
            return m;
        });
        dry.refuses("swap without a cover", ISE, m -> m.swap(0, 1));
        dry.refuses("swap into a clash", ISE, m -> m.swap(1, 2));
        RefusalTest narrow = new RefusalTest("a narrow market", () -> {
            StreetMarket m = TestKit.loaded("row 1 1 1 1; trader 0 front 1 limit 9; trader 0 front 2 limit 9; trader 0 front 1 limit 9;");
            m.place(0, 0);
            m.place(1, 1);
            m.place(2, 3);
            return m;
        });
        narrow.refuses("swap of blocks that would overlap", ISE, m -> m.swap(0, 1));
        narrow.refuses("swap of blocks that would overlap, the other way round", ISE, m -> m.swap(1, 0));
    }

    private static void expectedIncome(RefusalTest busy) {
        for (double wrong : new double[] {-Double.MIN_VALUE, Math.nextUp(1.0), Double.NaN, Double.POSITIVE_INFINITY, Double.NEGATIVE_INFINITY}) {
            busy.refuses("expectedIncome(" + wrong + ")", IAE, m -> m.expectedIncome(wrong));
        }
    }

    private static void firstCome(RefusalTest busy, RefusalTest full) {
        for (long wrong : new long[] {-1, Long.MIN_VALUE, Long.MAX_VALUE, 8, 18, 10, 11, 121, 12345671}) {
            busy.refuses("firstCome(" + wrong + ")", IAE, m -> m.firstCome(wrong));
        }
        for (long wrong : new long[] {9, 123456781, 123456780, 912345678}) {
            full.refuses("firstCome(" + wrong + ")", IAE, m -> m.firstCome(wrong));
        }
    }

    private static void insertion(RefusalTest on) {
        int count = on.maker.get().traderCount();
        int last = count - 1;
        for (int wrong : new int[] {-1, count, MIN, MAX}) {
            on.refuses("insertionIncome(" + wrong + ", 1)", IOOBE, m -> m.insertionIncome(wrong, 1));
            on.refuses("insertionIncome(" + wrong + ", 3), both wrong", IOOBE, m -> m.insertionIncome(wrong, 3));
            on.refuses("insert(" + wrong + ", 1)", IOOBE, m -> m.insert(wrong, 1));
            on.refuses("insert(" + wrong + ", -1), both wrong", IOOBE, m -> m.insert(wrong, -1));
        }
        for (int wrong : new int[] {-1, 3, MIN, MAX}) {
            on.refuses("insertionIncome(last, " + wrong + ")", IAE, m -> m.insertionIncome(last, wrong));
            on.refuses("insertionIncome(0, " + wrong + "), who is placed", IAE, m -> m.insertionIncome(0, wrong));
            on.refuses("insert(last, " + wrong + ")", IAE, m -> m.insert(last, wrong));
            on.refuses("insert(0, " + wrong + "), who is placed", IAE, m -> m.insert(0, wrong));
        }
        for (int moves = 0; moves <= 2; moves++) {
            int most = moves;
            on.refuses("insertionIncome(0, " + most + "), who is placed", ISE, m -> m.insertionIncome(0, most));
            on.refuses("insert(0, " + most + "), who is placed", ISE, m -> m.insert(0, most));
            if (on.maker.get().insertionIncome(last, most) < 0) {
                on.refuses("insert(last, " + most + "), no insertion", ISE, m -> m.insert(last, most));
            }
        }
    }

    private static void undo() {
        RefusalTest undone = new RefusalTest("a market with all undone", () -> {
            StreetMarket m = busy();
            for (int i = 0; i < 6; i++) {
                m.undo();
            }
            return m;
        });
        undone.refuses("undo()", ISE, StreetMarket::undo);
    }
}
