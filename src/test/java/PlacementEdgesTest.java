/** The boundary cases of section 3 (valid placements) and of promises 17 to 26, sentence by sentence. */
public final class PlacementEdgesTest {
    private static final Class<IllegalArgumentException> IAE = IllegalArgumentException.class;
    private static final Class<IllegalStateException> ISE = IllegalStateException.class;
    private static final Class<IndexOutOfBoundsException> IOOBE = IndexOutOfBoundsException.class;
    private static final int MIN = Integer.MIN_VALUE;
    private static final int MAX = Integer.MAX_VALUE;
    private static final String TWELVE = "row 1 1 1 1 1 1 1 1 1 1 1 1;";
    private static final TestKit KIT = new TestKit();

    public static void main(String[] args) {
        blocks();
        noPitchInTwoBlocks();
        rentAtMostTheLimit();
        neighboursDoNotClash();
        coversTogether();
        atFirstNobody();
        traderAt();
        start();
        obstacleOrder();
        obstacleOutOfBounds();
        place();
        placeAgainstObstacles();
        placeOnAFullStreet();
        remove();
        swap();
        swapWrongTraders();
        swapRefused();
        swapBlocksInOneRow();
        swapBesideEachOther();
        clear();
        income();
        coversUsed();
        sheltered();
        expectedIncome();
        expectedIncomeOutOfRange();
        KIT.end("PlacementEdgesTest");
    }

    private static String obstacles(StreetMarket m, int trader) {
        StringBuilder line = new StringBuilder();
        for (int p = 0; p < m.pitchCount(); p++) {
            line.append(m.obstacle(trader, p));
        }
        return line.toString();
    }

    // ---- section 3

    private static void blocks() {
        KIT.says("A placement gives some of the traders a block each: as many consecutive pitches of one row as the frontage says.");
        StreetMarket m = TestKit.loaded("row 1 1 1 1; row 1; row 1 1; row 1 1 1; trader 0 front 1 limit 9; trader 0 front 2 limit 9; trader 0 front 3 limit 9;");
        KIT.is("starts of one pitch", obstacles(m, 0), "0000000000");
        KIT.is("starts of two pitches", obstacles(m, 1), "0002202002");
        KIT.is("starts of three pitches", obstacles(m, 2), "0022222022");
        m.place(2, 7);
        KIT.is("the last three pitches of the street", TestKit.placement(m), ".......222");
    }

    private static void noPitchInTwoBlocks() {
        KIT.says("no pitch belongs to two blocks");
        StreetMarket m = TestKit.loaded("row 1 1 1 1 1 1 1 1 1; trader 0 front 3 limit 9; trader 0 front 1 limit 9; trader 0 front 2 limit 9; trader 0 front 3 limit 9;");
        m.place(0, 3);
        KIT.is("one pitch beside three", obstacles(m, 1), "000333000");
        KIT.is("two pitches beside three", obstacles(m, 2), "003333002");
        KIT.is("three pitches beside three", obstacles(m, 3), "033333022");
        m.place(3, 0);
        m.place(2, 6);
        KIT.is("without a gap", TestKit.placement(m), "33300022.");
    }

    private static void rentAtMostTheLimit() {
        KIT.says("for each placed trader, the sum of the rents of its block (the rent of the trader) is at most its limit");
        for (int front = 1; front <= 3; front++) {
            int sum = 999 * front;
            StreetMarket m = TestKit.loaded("row 999 999 999; trader 0 front " + front + " limit " + (sum - 1)
                + "; trader 0 front " + front + " limit " + sum + "; trader 0 front " + front + " limit " + (sum + 1) + ";");
            KIT.is("limit one too small", m.obstacle(0, 0), 4);
            KIT.is("just the limit", m.obstacle(1, 0), 0);
            KIT.is("limit one greater", m.obstacle(2, 0), 0);
        }
    }

    private static void neighboursDoNotClash() {
        KIT.says("for no two neighbouring pitches of different placed traders, the trades of these traders clash");
        StreetMarket m = TestKit.loaded("row 1 1 1 1 1 1; row 1 1; clash 0 1; trader 0 front 2 limit 9; trader 1 front 1 limit 9; trader 1 front 2 limit 9; trader 0 front 1 limit 9;");
        m.place(0, 2);
        KIT.is("beside it, of one pitch", obstacles(m, 1), "06336000");
        KIT.is("beside it, of two pitches", obstacles(m, 2), "63336202");
        KIT.is("the same trade may stand beside it", obstacles(m, 3), "00330000");
        m.place(3, 5);
        KIT.is("the row's end parts them", m.obstacle(1, 6), 0);
        StreetMarket self = TestKit.loaded("row 1 1 1 1; clash 2 2; trader 2 front 3 limit 9; trader 2 front 1 limit 9;");
        KIT.is("a trader does not clash with itself", obstacles(self, 0), "0022");
        self.place(0, 0);
        KIT.is("another of its trade does", obstacles(self, 1), "3336");
    }

    private static void coversTogether() {
        KIT.says("the placed traders who need cover have together at most as many pitches without a roof in their blocks as there are movable covers.");
        StreetMarket m = TestKit.loaded("row 1 1 1 1 1roof 1; covers 4; trader 0 front 3 limit 9 cover; trader 0 front 1 limit 9 cover; trader 0 front 1 limit 9 cover; trader 0 front 1 limit 9;");
        m.place(0, 0);
        KIT.is("the fourth cover", obstacles(m, 1), "333000");
        m.place(1, 3);
        KIT.is("no fifth cover, but a roof", obstacles(m, 2), "333305");
        KIT.is("who does not need it", obstacles(m, 3), "333300");
        m.remove(1);
        m.setCovers(3);
        KIT.is("three of three are in use", obstacles(m, 1), "333505");
    }

    private static void atFirstNobody() {
        KIT.says("At first no trader is placed.");
        StreetMarket m = TestKit.loaded(TWELVE + TWELVE + "trader 0 front 1 limit 1;".repeat(8));
        KIT.is("placement", TestKit.placement(m), ".".repeat(24));
        for (int t = 0; t < 8; t++) {
            KIT.is("start of " + t, m.start(t), -1);
        }
        KIT.is("income and covers", m.income() + " " + m.coversUsed() + " " + m.clear(), "0 0 0");
    }

    // ---- promises 17 to 19

    private static void traderAt() {
        KIT.says("Returns the number of the trader; -1 if the pitch is free.");
        StreetMarket m = TestKit.loaded(TWELVE + TWELVE + "trader 0 front 3 limit 9;".repeat(8));
        m.place(0, 0);
        m.place(7, 21);
        int[] due = {0, 0, 0, -1, -1, -1, -1, -1, -1, -1, -1, -1, -1, -1, -1, -1, -1, -1, -1, -1, -1, 7, 7, 7};
        for (int p = 0; p < 24; p++) {
            KIT.is("traderAt " + p, m.traderAt(p), due[p]);
        }
        m.remove(7);
        KIT.is("free again", m.traderAt(21) + " " + m.traderAt(22) + " " + m.traderAt(23), "-1 -1 -1");
        for (int wrong : new int[] {-1, 24, 25, MIN, MAX}) {
            KIT.isThrown("traderAt " + wrong, IOOBE, () -> m.traderAt(wrong));
        }
    }

    private static void start() {
        KIT.says("Returns the number of the pitch; -1 if the trader is not placed.");
        StreetMarket m = TestKit.loaded(TWELVE + TWELVE + "trader 0 front 1 limit 9;".repeat(8));
        KIT.is("not yet placed", m.start(7), -1);
        KIT.is("on the last pitch", m.place(7, 23) + " " + m.start(7), "1 23");
        KIT.is("on the first pitch", m.place(0, 0) + " " + m.start(0), "1 0");
        m.remove(7);
        KIT.is("not any more", m.start(7), -1);
        for (int wrong : new int[] {-1, 8, 9, MIN, MAX}) {
            KIT.isThrown("start " + wrong, IOOBE, () -> m.start(wrong));
        }
    }

    /** Trader 5 has the obstacles 2 to 6 at once; they are taken away one after the other. */
    private static void obstacleOrder() {
        KIT.says("otherwise the first of these that applies");
        StreetMarket m = TestKit.loaded("row 5 5 5 5; clash 0 1; clash 1 1; trader 0 front 1 limit 9; trader 1 front 2 limit 9 cover;"
            + "trader 1 front 2 limit 10 cover; trader 1 front 2 limit 10; trader 2 front 2 limit 10; trader 1 front 1 limit 4 cover;"
            + "trader 1 front 3 limit 14 cover; trader 1 front 3 limit 14 cover;");
        m.place(0, 1);
        KIT.is("1, though 2 and 3 apply", m.obstacle(0, 3) + " " + m.obstacle(0, 1), "1 1");
        KIT.is("2, though 3, 4, 5 and 6 apply", m.obstacle(6, 2), 2);
        KIT.is("3, though 4, 5 and 6 apply", m.obstacle(6, 1) + " " + m.obstacle(1, 0), "3 3");
        KIT.is("4, though 5 and 6 apply", m.obstacle(1, 2), 4);
        KIT.is("5, though 6 applies", m.obstacle(2, 2), 5);
        KIT.is("6", m.obstacle(3, 2), 6);
        KIT.is("0", m.obstacle(4, 2), 0);
        KIT.is("4 and 5 of one pitch", m.obstacle(5, 3), 4);
        m.place(4, 2);
        KIT.is("1 of a placed trader everywhere", obstacles(m, 4), "1111");
        KIT.is("2 at the last pitch, though it is taken", m.obstacle(3, 3), 2);
        m.remove(0);
        m.remove(4);
        m.setCovers(2);
        KIT.is("just covers enough", m.obstacle(2, 2), 0);
        m.setCovers(1);
        KIT.is("one cover too few", m.obstacle(2, 2), 5);
    }

    private static void obstacleOutOfBounds() {
        KIT.says("Throws IndexOutOfBoundsException if the trader or the pitch does not exist");
        StreetMarket m = TestKit.loaded(TWELVE + TWELVE + "trader 0 front 1 limit 1;".repeat(8));
        KIT.is("the last of both", m.obstacle(7, 23), 0);
        for (int wrong : new int[] {-1, 24, 25, MIN, MAX}) {
            KIT.isThrown("obstacle at pitch " + wrong, IOOBE, () -> m.obstacle(7, wrong));
            KIT.isThrown("place at pitch " + wrong, IOOBE, () -> m.place(7, wrong));
        }
        for (int wrong : new int[] {-1, 8, 9, MIN, MAX}) {
            KIT.isThrown("obstacle of trader " + wrong, IOOBE, () -> m.obstacle(wrong, 23));
            KIT.isThrown("obstacle of trader and at pitch " + wrong, IOOBE, () -> m.obstacle(wrong, wrong));
            KIT.isThrown("place trader " + wrong, IOOBE, () -> m.place(wrong, 23));
            KIT.isThrown("place trader and at pitch " + wrong, IOOBE, () -> m.place(wrong, wrong));
        }
        StreetMarket nobody = TestKit.loaded("row 1;");
        KIT.isThrown("no traders", IOOBE, () -> nobody.obstacle(0, 0));
        StreetMarket nowhere = TestKit.loaded("trader 0 front 1 limit 1;");
        KIT.isThrown("no pitches", IOOBE, () -> nowhere.obstacle(0, 0));
        KIT.isThrown("place without pitches", IOOBE, () -> nowhere.place(0, 0));
    }

    // ---- promises 20 to 22

    private static void place() {
        KIT.says("Returns the rent of the trader.");
        for (int front = 1; front <= 3; front++) {
            StreetMarket m = TestKit.loaded("row 1 2 4 8; row 16 32 999; trader 0 front " + front + " limit 9999;");
            int[][] due = {{1, 2, 4, 8, 16, 32, 999}, {3, 6, 12, -1, 48, 1031, -1}, {7, 14, -1, -1, 1047, -1, -1}};
            for (int p = 0; p < 7; p++) {
                if (due[front - 1][p] > 0) {
                    KIT.is("place on " + p, m.place(0, p), due[front - 1][p]);
                    KIT.is("remove from " + p, m.remove(0), p);
                }
            }
        }
    }

    private static void placeAgainstObstacles() {
        KIT.says("Throws IllegalStateException if obstacle(trader, pitch) is not 0");
        StreetMarket m = TestKit.loaded("row 5 5 5 5; clash 0 1; trader 0 front 1 limit 9; trader 1 front 2 limit 9; trader 2 front 2 limit 10 cover; trader 1 front 1 limit 5; trader 3 front 2 limit 10; covers 1;");
        m.place(0, 1);
        int[][] tries = {{0, 0}, {1, 3}, {1, 1}, {1, 2}, {2, 2}, {3, 2}};
        for (int i = 0; i < 6; i++) {
            int[] now = tries[i];
            KIT.is("obstacle", m.obstacle(now[0], now[1]), i + 1);
            KIT.isThrown("place against obstacle " + (i + 1), ISE, () -> m.place(now[0], now[1]));
        }
        KIT.is("nothing is different", TestKit.placement(m), ".0..");
        KIT.is("without an obstacle", m.place(4, 2), 10);
        KIT.is("load and two placed", m.undo(), 2);
    }

    private static void placeOnAFullStreet() {
        KIT.says("Places a trader with its start on a pitch.");
        StreetMarket m = TestKit.loaded(TWELVE + TWELVE + "trader 0 front 3 limit 3;".repeat(8));
        for (int t = 0; t < 8; t++) {
            KIT.is("place " + t, m.place(t, 21 - 3 * t), 3);
        }
        KIT.is("all pitches are taken", TestKit.placement(m), "777666555444333222111000");
        KIT.is("income", m.income(), 24);
        KIT.isThrown("no trader is placed twice", ISE, () -> m.place(0, 0));
        KIT.is("clear", m.clear(), 8);
    }

    private static void remove() {
        KIT.says("Throws IllegalStateException if the trader is not placed");
        StreetMarket m = TestKit.loaded("row 1 1 1; trader 0 front 2 limit 9; trader 0 front 1 limit 9;");
        KIT.isThrown("never placed", ISE, () -> m.remove(0));
        m.place(0, 1);
        m.place(1, 0);
        KIT.is("removed", m.remove(0) + TestKit.placement(m), "11..");
        KIT.isThrown("removed twice", ISE, () -> m.remove(0));
        KIT.is("from pitch 0", m.remove(1) + TestKit.placement(m), "0...");
        KIT.isThrown("both are gone", ISE, () -> m.remove(1));
        KIT.is("load and four changes", m.undo(), 4);
    }

    private static void swap() {
        KIT.says("Exchanges the starts of two placed traders.");
        StreetMarket m = TestKit.loaded(TWELVE.replace("row 1", "row 5") + TWELVE + "trader 0 front 3 limit 9;trader 0 front 1 limit 9;" + "trader 0 front 1 limit 9;".repeat(6));
        m.place(0, 0);
        m.place(7, 21);
        KIT.is("the first and the last block, by income", m.swap(0, 7), 8);
        KIT.is("the placement", TestKit.placement(m), "7....................000");
        KIT.is("back, named the other way round", m.swap(7, 0) + " " + m.start(0) + " " + m.start(7), "8 0 21");
        m.setRent(1, 2);
        KIT.is("the new income", m.swap(0, 7), 8);
        KIT.is("the new income of the way back", m.swap(0, 7), 9);
    }

    private static void swapWrongTraders() {
        KIT.says("Throws IllegalStateException if both are the same, if one of them is not placed");
        StreetMarket m = TestKit.loaded("row 1 1 1; trader 0 front 1 limit 9; trader 0 front 1 limit 9; trader 0 front 1 limit 9;");
        m.place(0, 0);
        m.place(1, 2);
        KIT.isThrown("the same", ISE, () -> m.swap(0, 0));
        KIT.isThrown("the same, not placed", ISE, () -> m.swap(2, 2));
        KIT.isThrown("the second is not placed", ISE, () -> m.swap(0, 2));
        KIT.isThrown("the first is not placed", ISE, () -> m.swap(2, 1));
        for (int wrong : new int[] {-1, 3, 8, MIN, MAX}) {
            KIT.isThrown("no first", IOOBE, () -> m.swap(wrong, 0));
            KIT.isThrown("no second", IOOBE, () -> m.swap(0, wrong));
            KIT.isThrown("no first, second not placed", IOOBE, () -> m.swap(wrong, 2));
            KIT.isThrown("first not placed, no second", IOOBE, () -> m.swap(2, wrong));
            KIT.isThrown("neither, and both the same", IOOBE, () -> m.swap(wrong, wrong));
        }
        KIT.is("nothing is different", TestKit.placement(m), "0.1");
        KIT.is("load and two placed", m.undo(), 2);
    }

    private static void swapRefused() {
        KIT.says("or if the placement would not be valid any more");
        StreetMarket limit = TestKit.loaded("row 10 11; trader 0 front 1 limit 10; trader 0 front 1 limit 11;");
        limit.place(0, 0);
        limit.place(1, 1);
        KIT.isThrown("one above the limit", ISE, () -> limit.swap(0, 1));
        KIT.isThrown("the other way round", ISE, () -> limit.swap(1, 0));
        limit.setRent(1, 10);
        KIT.is("just the limit", limit.swap(0, 1), 20);
        StreetMarket cover = TestKit.loaded("row 1 1roof; covers 1; trader 0 front 1 limit 9; trader 0 front 1 limit 9 cover;");
        cover.place(0, 0);
        cover.place(1, 1);
        KIT.is("just covers enough", cover.swap(0, 1) + " " + cover.coversUsed(), "2 1");
        cover.swap(0, 1);
        cover.setCovers(0);
        KIT.isThrown("a cover too few", ISE, () -> cover.swap(0, 1));
        KIT.is("none is used", cover.coversUsed(), 0);
        StreetMarket clash = TestKit.loaded("row 1 1 1 1; row 1; clash 0 1; trader 0 front 1 limit 9; trader 1 front 1 limit 9; trader 2 front 1 limit 9; trader 2 front 1 limit 9;");
        clash.place(0, 0);
        clash.place(2, 1);
        clash.place(1, 2);
        clash.place(3, 4);
        KIT.isThrown("a clash with a third", ISE, () -> clash.swap(2, 1));
        KIT.is("the row's end parts them", clash.swap(1, 3) + TestKit.placement(clash), "4023.1");
    }

    private static void swapBlocksInOneRow() {
        KIT.says("(this includes blocks that do not lie in one row)");
        StreetMarket m = TestKit.loaded("row 1 1 1; row 1 1 1; trader 0 front 2 limit 9; trader 0 front 1 limit 9; trader 0 front 3 limit 9;");
        m.place(0, 0);
        m.place(1, 2);
        KIT.isThrown("into the next row", ISE, () -> m.swap(0, 1));
        m.remove(1);
        m.place(1, 5);
        KIT.isThrown("beyond the last pitch of the street", ISE, () -> m.swap(1, 0));
        m.remove(1);
        m.place(1, 4);
        KIT.is("the last block of the row", m.swap(1, 0) + TestKit.placement(m), "31...00");
        m.clear();
        m.place(2, 0);
        m.place(1, 4);
        KIT.isThrown("one pitch too many", ISE, () -> m.swap(1, 2));
        m.remove(1);
        m.place(1, 3);
        KIT.is("just the row", m.swap(1, 2) + TestKit.placement(m), "41..222");
    }

    private static void swapBesideEachOther() {
        KIT.says("Exchanges the starts of two placed traders.");
        StreetMarket m = TestKit.loaded("row 1 1 1 1 1; clash 0 1; trader 0 front 1 limit 9; trader 2 front 2 limit 9; trader 2 front 1 limit 9; trader 3 front 1 limit 9;");
        m.place(1, 0);
        m.place(2, 2);
        KIT.is("a block that reaches to where its own start was not", TestKit.outcome(() -> m.swap(1, 2)), 3);
        KIT.is("it lies over no other", TestKit.placement(m), "2.11.");
        m.clear();
        m.place(1, 1);
        m.place(2, 0);
        KIT.isThrown("they would lie over each other", ISE, () -> m.swap(1, 2));
        KIT.is("nothing is different", TestKit.placement(m), "211..");
        m.place(3, 4);
        KIT.isThrown("beyond the row, and over nobody", ISE, () -> m.swap(1, 3));
        m.remove(3);
        m.place(3, 3);
        KIT.is("its old place is free for the other", TestKit.outcome(() -> m.swap(1, 3)), 4);
        KIT.is("the places", TestKit.placement(m), "23.11");
        StreetMarket own = TestKit.loaded("row 1 1; clash 0 1; trader 0 front 1 limit 9; trader 2 front 1 limit 9;");
        own.place(0, 0);
        own.place(1, 1);
        KIT.is("side by side", own.swap(0, 1) + TestKit.placement(own), "210");
    }

    // ---- promises 23 to 26

    private static void clear() {
        KIT.says("Returns the number of traders that were placed.");
        KIT.is("an empty market", new StreetMarket().clear(), 0);
        StreetMarket m = TestKit.loaded(TWELVE + TWELVE + "covers 4;" + "trader 0 front 1 limit 9 cover;".repeat(4) + "trader 0 front 3 limit 9;".repeat(4));
        KIT.is("nobody", m.clear(), 0);
        for (int t = 0; t < 8; t++) {
            m.place(t, 3 * t);
        }
        KIT.is("all eight", m.clear(), 8);
        KIT.is("nobody is left", TestKit.placement(m) + m.income() + m.coversUsed(), ".".repeat(24) + "00");
        KIT.is("once more", m.clear(), 0);
        KIT.is("traders and covers stay", m.traderCount() + " " + m.setCovers(0), "8 4");
    }

    private static void income() {
        KIT.says("Returns the income of the present placement.");
        KIT.is("an empty market", new StreetMarket().income(), 0);
        StreetMarket m = TestKit.loaded(TWELVE.replace("1", "999") + TWELVE.replace("1", "999") + "trader 0 front 3 limit 2997;".repeat(8));
        KIT.is("nobody", m.income(), 0);
        for (int t = 0; t < 8; t++) {
            m.place(t, 3 * t);
            KIT.is("of " + (t + 1), m.income(), 2997 * (t + 1));
        }
        m.setRent(23, 1);
        KIT.is("a rent is lower", m.income(), 2997 * 7 + 999 * 2 + 1);
    }

    private static void coversUsed() {
        KIT.says("the pitches without a roof of placed traders who need cover.");
        KIT.is("an empty market", new StreetMarket().coversUsed(), 0);
        StreetMarket m = TestKit.loaded("row 1 1 1roof 1 1 1roof; row 1 1; covers 4; trader 0 front 3 limit 9 cover; trader 0 front 3 limit 9 cover; trader 0 front 2 limit 9; trader 0 front 1 limit 9 cover;");
        KIT.is("nobody", m.coversUsed(), 0);
        m.place(2, 6);
        KIT.is("who does not need cover", m.coversUsed(), 0);
        m.place(0, 0);
        KIT.is("two of three", m.coversUsed(), 2);
        m.place(1, 3);
        KIT.is("all four", m.coversUsed(), 4);
        KIT.is("covers that are in use are not more than there are", m.setCovers(4), 4);
        m.remove(0);
        m.place(3, 2);
        KIT.is("under a roof none", m.coversUsed(), 2);
        m.clear();
        KIT.is("nobody again", m.coversUsed(), 0);
    }

    private static void sheltered() {
        KIT.says("A placed trader is sheltered if it needs cover or if all pitches of its block are roofed.");
        String street = "row 8roof 8roof 8roof 8 8roof; covers 3;";
        StreetMarket m = TestKit.loaded(street + "trader 0 front 3 limit 99; trader 0 front 3 limit 99 cover;");
        m.place(0, 0);
        KIT.is("three roofs", m.expectedIncome(1.0), 24.0);
        m.remove(0);
        m.place(0, 1);
        KIT.is("the last of three is open", m.expectedIncome(1.0), 12.0);
        m.remove(0);
        m.place(0, 2);
        KIT.is("the middle one is open", m.expectedIncome(1.0), 12.0);
        m.remove(0);
        m.place(1, 1);
        KIT.is("who needs cover has it", m.expectedIncome(1.0), 24.0);
        StreetMarket first = TestKit.loaded("row 8 8roof 8roof; trader 0 front 3 limit 99;");
        first.place(0, 0);
        KIT.is("the first one is open", first.expectedIncome(1.0), 12.0);
    }

    private static void expectedIncome() {
        KIT.says("it begins with 0.0; for each placed trader, by increasing number, with rent r, it grows by r if the trader is sheltered, otherwise by r * (1.0 - rain) + r * 0.5 * rain (evaluated from left to right).");
        KIT.is("an empty market", new StreetMarket().expectedIncome(1.0), 0.0);
        StringBuilder text = new StringBuilder("row 1 3 7 11 13 17 19roof 999; covers 1;");
        for (int t = 0; t < 8; t++) {
            text.append("trader 0 front 1 limit 999" + (t == 2 ? "cover;" : ";"));
        }
        StreetMarket m = TestKit.loaded(text.toString());
        KIT.is("nobody", m.expectedIncome(0.3), 0.0);
        int[] rents = {1, 3, 7, 11, 13, 17, 19, 999};
        int[] at = {5, 0, 7, 3, 6, 1, 4, 2};
        for (int t = 0; t < 8; t++) {
            m.place(t, at[t]);
        }
        for (double rain : new double[] {0.0, -0.0, Double.MIN_VALUE, 0.1, 0.3, 1.0 / 3, 0.5, 0.7, 0.9999999999999999, 1.0}) {
            double due = 0.0;
            for (int t = 0; t < 8; t++) {
                double r = rents[at[t]];
                due += t == 2 || at[t] == 6 ? r : r * (1.0 - rain) + r * 0.5 * rain;
            }
            KIT.is("rain " + rain, m.expectedIncome(rain), due);
        }
    }

    private static void expectedIncomeOutOfRange() {
        KIT.says("Throws IllegalArgumentException if rain is not a number from 0.0 to 1.0");
        StreetMarket m = TestKit.loaded("row 10; trader 0 front 1 limit 10;");
        m.place(0, 0);
        KIT.is("0.0", m.expectedIncome(0.0), 10.0);
        KIT.is("1.0", m.expectedIncome(1.0), 5.0);
        for (double wrong : new double[] {-Double.MIN_VALUE, -1.0, Math.nextUp(1.0), 2.0, Double.MAX_VALUE, -Double.MAX_VALUE,
            Double.NaN, Double.POSITIVE_INFINITY, Double.NEGATIVE_INFINITY}) {
            KIT.isThrown("rain " + wrong, IAE, () -> m.expectedIncome(wrong));
            KIT.isThrown("rain " + wrong + " on nobody", IAE, () -> new StreetMarket().expectedIncome(wrong));
        }
    }
}
