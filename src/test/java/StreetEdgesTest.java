/** The boundary cases of sections 1 and 2 and of promises 5 to 16, sentence by sentence. */
public final class StreetEdgesTest {
    private static final Class<IllegalArgumentException> IAE = IllegalArgumentException.class;
    private static final Class<IllegalStateException> ISE = IllegalStateException.class;
    private static final Class<IndexOutOfBoundsException> IOOBE = IndexOutOfBoundsException.class;
    private static final int MIN = Integer.MIN_VALUE;
    private static final int MAX = Integer.MAX_VALUE;
    private static final String TWELVE = "row 1 2 3 4 5 6 7 8 9 10 11 12;";
    private static final TestKit KIT = new TestKit();

    public static void main(String[] args) {
        rows();
        pitchesOfARow();
        pitchesOfTheMarket();
        neighbours();
        rents();
        roofs();
        covers();
        coverProtectsOnePitch();
        traders();
        numbersOfATrader();
        clashingTrades();
        pitchCount();
        gettersOfPitches();
        setRent();
        setRentAndTheTrader();
        setRentOutOfRange();
        traderCount();
        gettersOfTraders();
        addTrader();
        addTraderOutOfRange();
        addTraderToEight();
        clash();
        setClash();
        setClashOutOfRange();
        setClashAgainstThePlacement();
        setCovers();
        setCoversOutOfRange();
        setCoversBelowThoseInUse();
        KIT.end("StreetEdgesTest");
    }

    private static int load(String text) {
        return TestKit.load(new StreetMarket(), text);
    }

    private static Object set(StreetMarket m, int first, int second, boolean on) {
        return TestKit.outcome(() -> { m.setClash(first, second, on); return "set"; });
    }

    // ---- section 1

    private static void rows() {
        KIT.says("A market has at most 4 rows of pitches.");
        KIT.is("none", TestKit.loaded("").pitchCount(), 0);
        KIT.is("one", TestKit.loaded("row 1;").row(0), 0);
        KIT.is("four", TestKit.loaded("row 1;row 1;row 1;row 1;").row(3), 3);
        KIT.is("five", load("row 1;row 1;row 1;row 1;row 1;"), -4);
    }

    private static void pitchesOfARow() {
        KIT.says("Each row has 1 to 12 pitches");
        KIT.is("none", load("row;"), -2);
        KIT.is("one", TestKit.loaded("row 1;").pitchCount(), 1);
        KIT.is("twelve", TestKit.loaded(TWELVE).pitchCount(), 12);
        KIT.is("thirteen", load("row 1 2 3 4 5 6 7 8 9 10 11 12 13;"), -4);
    }

    private static void pitchesOfTheMarket() {
        KIT.says("there are at most 24 pitches in all, numbered from 0 through all rows.");
        StreetMarket m = TestKit.loaded(TWELVE + "row 13 14 15 16 17 18 19 20 21 22 23; row 24;");
        KIT.is("24", m.pitchCount(), 24);
        for (int p = 0; p < 24; p++) {
            KIT.is("rent and row of " + p, m.rent(p) + " " + m.row(p), p + 1 + " " + (p < 12 ? 0 : p < 23 ? 1 : 2));
        }
        KIT.is("25 in two rows and one", load(TWELVE + TWELVE + "row 1;"), -4);
        KIT.is("25 in four rows", load("row 1 1 1 1 1 1;row 1 1 1 1 1 1;row 1 1 1 1 1 1;row 1 1 1 1 1 1 1;"), -4);
    }

    private static void neighbours() {
        KIT.says("Two pitches are neighbours if they are in the same row and their numbers differ by 1.");
        StreetMarket m = TestKit.loaded("row 1 1 1; row 1; row 1 1; clash 0 0; trader 0 front 1 limit 9; trader 0 front 1 limit 9;");
        String[] due = {"160000", "616000", "061000", "000100", "000016", "000061"};
        for (int p = 0; p < 6; p++) {
            m.place(0, p);
            StringBuilder line = new StringBuilder();
            for (int q = 0; q < 6; q++) {
                int obstacle = m.obstacle(1, q);
                line.append(obstacle == 3 ? 1 : obstacle);
            }
            KIT.is("beside pitch " + p, line.toString(), due[p]);
            m.remove(0);
        }
    }

    private static void rents() {
        KIT.says("A pitch has a rent from 1 to 999.");
        KIT.is("0", load("row 0;"), -3);
        KIT.is("1", TestKit.loaded("row 1;").rent(0), 1);
        KIT.is("999", TestKit.loaded("row 999;").rent(0), 999);
        KIT.is("1000", load("row 1000;"), -3);
    }

    private static void roofs() {
        KIT.says("It is roofed or not.");
        StringBuilder text = new StringBuilder();
        for (int p = 0; p < 24; p++) {
            text.append(p % 12 == 0 ? "row" : "").append(p % 3 == 0 ? " 1roof" : " 1").append(p % 12 == 11 ? ";" : "");
        }
        StreetMarket m = TestKit.loaded(text.toString());
        for (int p = 0; p < 24; p++) {
            KIT.is("roof of " + p, m.isRoofed(p), p % 3 == 0);
        }
    }

    private static void covers() {
        KIT.says("In addition, there are 0 to 4 movable covers.");
        KIT.is("0", TestKit.loaded("covers 0;").setCovers(4), 0);
        KIT.is("4", TestKit.loaded("covers 4;").setCovers(0), 4);
        KIT.is("5", load("covers 5;"), -3);
    }

    private static void coverProtectsOnePitch() {
        KIT.says("A movable cover protects one pitch that is not roofed.");
        for (int covers = 0; covers <= 4; covers++) {
            StreetMarket m = TestKit.loaded("row 1 1 1; row 1roof 1 1; row 1roof 1roof 1; row 1roof 1roof 1roof;"
                + "trader 0 front 3 limit 9 cover; trader 0 front 3 limit 9 cover; covers " + covers + ";");
            for (int row = 0; row < 4; row++) {
                int needed = 3 - row;
                KIT.is(covers + " covers for " + needed, m.obstacle(0, 3 * row), needed <= covers ? 0 : 5);
            }
            m.place(0, 9);
            KIT.is("all roofed uses none", m.coversUsed(), 0);
            KIT.is("so all are left", m.obstacle(1, 6), covers >= 1 ? 0 : 5);
        }
    }

    // ---- section 2

    private static void traders() {
        KIT.says("There are at most 8 traders, numbered from 0.");
        StringBuilder text = new StringBuilder();
        for (int t = 0; t < 8; t++) {
            text.append("trader " + t + " front 1 limit 1;");
        }
        KIT.is("none", TestKit.loaded("").traderCount(), 0);
        StreetMarket m = TestKit.loaded(text.toString());
        KIT.is("eight", m.traderCount(), 8);
        for (int t = 0; t < 8; t++) {
            KIT.is("number " + t, m.trade(t), t);
        }
        KIT.is("nine", load(text + "trader 0 front 1 limit 1;"), -4);
    }

    private static void numbersOfATrader() {
        KIT.says("A trader has a trade from 0 to 7, a frontage from 1 to 3 (the number of pitches it needs), a limit from 1 to 9999 (the greatest rent it pays), and needs cover or not.");
        KIT.is("trade 0", TestKit.loaded("trader 0 front 1 limit 1;").trade(0), 0);
        KIT.is("trade 7", TestKit.loaded("trader 7 front 1 limit 1;").trade(0), 7);
        KIT.is("trade 8", load("trader 8 front 1 limit 1;"), -3);
        KIT.is("frontage 0", load("trader 0 front 0 limit 1;"), -3);
        for (int front = 1; front <= 3; front++) {
            StreetMarket m = TestKit.loaded("row 1 1 1 1; trader 0 front " + front + " limit 9;");
            m.place(0, 0);
            KIT.is("pitches of frontage " + front, TestKit.placement(m), "0".repeat(front) + ".".repeat(4 - front));
        }
        KIT.is("frontage 4", load("trader 0 front 4 limit 1;"), -3);
        KIT.is("limit 0", load("trader 0 front 1 limit 0;"), -3);
        KIT.is("limit 1", TestKit.loaded("row 1; trader 0 front 1 limit 1;").obstacle(0, 0), 0);
        KIT.is("limit 1 for a rent of 2", TestKit.loaded("row 2; trader 0 front 1 limit 1;").obstacle(0, 0), 4);
        KIT.is("limit 9999", load("trader 0 front 1 limit 9999;"), 1);
        KIT.is("limit 10000", load("trader 0 front 1 limit 10000;"), -3);
    }

    private static void clashingTrades() {
        KIT.says("Some unordered pairs of trades clash; a trade may also clash with itself.");
        for (int first = 0; first < 8; first++) {
            for (int second = 0; second < 8; second++) {
                StreetMarket m = TestKit.loaded("clash " + first + ' ' + second + ';');
                int clashing = 0;
                for (int i = 0; i < 64; i++) {
                    clashing += m.clash(i / 8, i % 8) ? 1 : 0;
                }
                KIT.is(first + " and " + second, m.clash(first, second) && m.clash(second, first), true);
                KIT.is("and no other pair", clashing, first == second ? 1 : 2);
            }
        }
    }

    // ---- promises 5 to 9

    private static void pitchCount() {
        KIT.says("Returns 0 to 24.");
        StreetMarket m = new StreetMarket();
        KIT.is("new", m.pitchCount(), 0);
        TestKit.load(m, TWELVE + TWELVE);
        KIT.is("full", m.pitchCount(), 24);
        TestKit.load(m, "row 1;");
        KIT.is("one", m.pitchCount(), 1);
        m.load(0);
        KIT.is("empty", m.pitchCount(), 0);
        m.undo();
        KIT.is("one again", m.pitchCount(), 1);
    }

    private static void gettersOfPitches() {
        KIT.says("Throws IndexOutOfBoundsException if the pitch does not exist");
        for (int count : new int[] {0, 1, 12, 13, 24}) {
            StringBuilder text = new StringBuilder();
            for (int p = 0; p < count; p++) {
                text.append(p % 12 == 0 ? p == 0 ? "row 999roof" : ";row 1" : " 1");
            }
            StreetMarket m = TestKit.loaded(count == 0 ? "" : text + ";");
            for (int wrong : new int[] {-1, count, count + 1, 24, 25, MIN, MAX}) {
                KIT.isThrown("row " + wrong + " of " + count, IOOBE, () -> m.row(wrong));
                KIT.isThrown("rent " + wrong + " of " + count, IOOBE, () -> m.rent(wrong));
                KIT.isThrown("isRoofed " + wrong + " of " + count, IOOBE, () -> m.isRoofed(wrong));
                KIT.isThrown("traderAt " + wrong + " of " + count, IOOBE, () -> m.traderAt(wrong));
                KIT.isThrown("setRent " + wrong + " of " + count, IOOBE, () -> m.setRent(wrong, 1));
                KIT.isThrown("bestRent " + wrong + " of " + count, IOOBE, () -> m.bestRent(wrong));
            }
            if (count > 0) {
                int last = count - 1;
                KIT.is("the first", m.row(0) + " " + m.rent(0) + " " + m.isRoofed(0) + " " + m.traderAt(0), "0 999 true -1");
                KIT.is("the last", m.row(last) + " " + m.rent(last) + " " + m.isRoofed(last) + " " + m.traderAt(last),
                    last / 12 + (last == 0 ? " 999 true -1" : " 1 false -1"));
            }
        }
        StreetMarket shorter = TestKit.loaded(TWELVE + TWELVE);
        TestKit.load(shorter, "row 1 1;");
        KIT.isThrown("a pitch of the market before", IOOBE, () -> shorter.rent(2));
    }

    private static void setRent() {
        KIT.says("Sets the rent of a pitch.");
        StreetMarket m = TestKit.loaded(TWELVE + TWELVE);
        KIT.is("the lowest rent of the first pitch", m.setRent(0, 1) + " " + m.rent(0), "-1 1");
        KIT.is("the greatest rent of the first pitch", m.setRent(0, 999) + " " + m.rent(0), "-1 999");
        KIT.is("the greatest rent of the last pitch", m.setRent(23, 999) + " " + m.rent(23), "-1 999");
        KIT.is("no other pitch", m.rent(1) + " " + m.rent(22), "2 11");
        KIT.is("the same rent", m.setRent(1, 2) + " " + m.rent(1), "-1 2");
    }

    private static void setRentAndTheTrader() {
        KIT.says("If a trader stands there and its rent is greater than its limit then, it is not placed any more.");
        for (int at = 0; at < 3; at++) {
            StreetMarket m = TestKit.loaded("row 9 1 1 1 9; trader 0 front 1 limit 9; trader 0 front 3 limit 20 cover; trader 0 front 1 limit 9; covers 3;");
            m.place(0, 0);
            m.place(1, 1);
            m.place(2, 4);
            KIT.is("as much as the limit", m.setRent(1 + at, 18) + TestKit.placement(m) + " " + m.income(), "-101112 38");
            KIT.is("one more", m.setRent(1 + at, 19) + TestKit.placement(m) + " " + m.income(), "10...2 18");
            KIT.is("its start", m.start(1), -1);
            KIT.is("the rent is set", m.rent(1 + at), 19);
            KIT.is("its covers are free", m.coversUsed(), 0);
            KIT.is("nobody stands there now", m.setRent(1 + at, 999), -1);
        }
        StreetMarket rich = TestKit.loaded("row 1; trader 0 front 1 limit 998;");
        rich.place(0, 0);
        KIT.is("998 of 998", rich.setRent(0, 998), -1);
        KIT.is("999 of 998", rich.setRent(0, 999), 0);
        StreetMarket other = TestKit.loaded("row 5 5; trader 0 front 1 limit 5;");
        other.place(0, 0);
        KIT.is("the pitch beside it", other.setRent(1, 999) + " " + other.start(0), "-1 0");
    }

    private static void setRentOutOfRange() {
        KIT.says("Throws IllegalArgumentException if the rent is out of range");
        StreetMarket m = TestKit.loaded("row 5 7; trader 0 front 1 limit 9;");
        m.place(0, 0);
        for (int wrong : new int[] {0, -1, 1000, 1001, MIN, MAX}) {
            KIT.isThrown("rent " + wrong, IAE, () -> m.setRent(0, wrong));
            KIT.isThrown("rent " + wrong + " of a free pitch", IAE, () -> m.setRent(1, wrong));
            KIT.isThrown("rent " + wrong + " of no pitch", IOOBE, () -> m.setRent(2, wrong));
            KIT.isThrown("rent " + wrong + " of pitch -1", IOOBE, () -> m.setRent(-1, wrong));
        }
        KIT.is("nothing is different", m.rent(0) + " " + m.rent(1) + " " + m.start(0) + " " + m.undo(), "5 7 0 1");
    }

    // ---- promises 10 to 16

    private static void traderCount() {
        KIT.says("Returns 0 to 8.");
        StreetMarket m = new StreetMarket();
        for (int t = 0; t < 8; t++) {
            KIT.is("count", m.traderCount(), t);
            m.addTrader(0, 1, 1, false);
        }
        KIT.is("full", m.traderCount(), 8);
        m.undo();
        KIT.is("after undo", m.traderCount(), 7);
        m.load(0);
        KIT.is("after an empty text", m.traderCount(), 0);
    }

    private static void gettersOfTraders() {
        KIT.says("Throws IndexOutOfBoundsException if the trader does not exist");
        for (int count : new int[] {0, 1, 7, 8}) {
            StreetMarket m = TestKit.loaded("row 1 1 1;" + "trader 7 front 3 limit 9;".repeat(count));
            for (int wrong : new int[] {-1, count, count + 1, 8, 9, 31, 32, MIN, MAX}) {
                KIT.isThrown("trade " + wrong + " of " + count, IOOBE, () -> m.trade(wrong));
                KIT.isThrown("frontage " + wrong + " of " + count, IOOBE, () -> m.frontage(wrong));
                KIT.isThrown("start " + wrong + " of " + count, IOOBE, () -> m.start(wrong));
                KIT.isThrown("remove " + wrong + " of " + count, IOOBE, () -> m.remove(wrong));
                KIT.isThrown("contribution " + wrong + " of " + count, IOOBE, () -> m.contribution(wrong));
            }
            if (count > 0) {
                KIT.is("the last", m.trade(count - 1) + " " + m.frontage(count - 1) + " " + m.start(count - 1), "7 3 -1");
            }
        }
        StreetMarket fewer = TestKit.loaded("trader 1 front 1 limit 1; trader 2 front 2 limit 2;");
        TestKit.load(fewer, "trader 3 front 3 limit 3;");
        KIT.isThrown("a trader of the market before", IOOBE, () -> fewer.trade(1));
        KIT.is("the one of this market", fewer.trade(0) + " " + fewer.frontage(0), "3 3");
    }

    private static void addTrader() {
        KIT.says("Adds a trader, who is not placed.");
        StreetMarket m = TestKit.loaded("row 1 1 1; row 2;");
        KIT.is("the lowest numbers", m.addTrader(0, 1, 1, false), 0);
        KIT.is("the greatest numbers", m.addTrader(7, 3, 9999, true), 1);
        KIT.is("not placed", m.start(0) + " " + m.start(1) + TestKit.placement(m), "-1 -1....");
        KIT.is("trades", m.trade(0) + " " + m.trade(1), "0 7");
        KIT.is("frontages", m.frontage(0) + " " + m.frontage(1), "1 3");
        KIT.is("a limit of 1", m.obstacle(0, 0) + " " + m.obstacle(0, 3), "0 4");
        KIT.is("a need of 3 covers", m.obstacle(1, 0), 5);
        KIT.is("without pitches", new StreetMarket().addTrader(0, 1, 1, true), 0);
        m.place(0, 0);
        m.addTrader(0, 1, 1, false);
        KIT.is("the others stay where they are", m.start(0) + " " + m.start(2), "0 -1");
        m.load(0);
        m.undo();
        m.undo();
        m.addTrader(1, 1, 5, false);
        KIT.is("after undo the number is given again, and the new trader is not placed", m.start(2) + " " + m.trade(2), "-1 1");
    }

    private static void addTraderOutOfRange() {
        KIT.says("Throws IllegalArgumentException if a parameter is out of range");
        StreetMarket m = new StreetMarket();
        for (int wrong : new int[] {-1, 8, MIN, MAX}) {
            KIT.isThrown("trade " + wrong, IAE, () -> m.addTrader(wrong, 1, 1, false));
        }
        for (int wrong : new int[] {-1, 0, 4, MIN, MAX}) {
            KIT.isThrown("frontage " + wrong, IAE, () -> m.addTrader(0, wrong, 1, false));
        }
        for (int wrong : new int[] {-1, 0, 10000, MIN, MAX}) {
            KIT.isThrown("limit " + wrong, IAE, () -> m.addTrader(0, 1, wrong, true));
        }
        KIT.isThrown("all of them", IAE, () -> m.addTrader(8, 0, 0, true));
        KIT.is("nobody is added", m.traderCount(), 0);
        KIT.isThrown("and no change is made", ISE, m::undo);
    }

    private static void addTraderToEight() {
        KIT.says("Throws IllegalStateException if there are already 8 traders");
        StreetMarket m = TestKit.loaded("trader 0 front 1 limit 1;".repeat(7));
        KIT.is("the eighth", m.addTrader(0, 1, 1, false), 7);
        KIT.isThrown("the ninth", ISE, () -> m.addTrader(0, 1, 1, false));
        KIT.isThrown("a wrong trade and too many: the first named", IAE, () -> m.addTrader(-1, 1, 1, false));
        KIT.isThrown("a wrong frontage and too many", IAE, () -> m.addTrader(0, 4, 1, false));
        KIT.isThrown("a wrong limit and too many", IAE, () -> m.addTrader(0, 1, 10000, false));
        KIT.is("still eight, by two changes", m.traderCount() + " " + m.undo(), "8 1");
        KIT.is("room again", m.addTrader(0, 1, 1, false), 7);
    }

    private static void clash() {
        KIT.says("Throws IllegalArgumentException if a trade is out of range");
        StreetMarket m = TestKit.loaded("clash 0 0; clash 7 7; clash 0 7;");
        KIT.is("the edges", m.clash(0, 0) && m.clash(7, 7) && m.clash(0, 7) && m.clash(7, 0), true);
        KIT.is("beside them", m.clash(1, 1) || m.clash(6, 6) || m.clash(0, 6) || m.clash(1, 7), false);
        for (int wrong : new int[] {-1, 8, 31, 32, 33, MIN, MAX}) {
            for (int right : new int[] {0, 7}) {
                KIT.isThrown("clash", IAE, () -> m.clash(wrong, right));
                KIT.isThrown("clash", IAE, () -> m.clash(right, wrong));
            }
            KIT.isThrown("clash", IAE, () -> m.clash(wrong, wrong));
        }
    }

    private static void setClash() {
        KIT.says("Lets two trades clash, or not clash any more.");
        StreetMarket m = new StreetMarket();
        for (int[] pair : new int[][] {{0, 0}, {7, 7}, {0, 7}, {7, 0}, {3, 4}}) {
            m.setClash(pair[0], pair[1], true);
            KIT.is("set", m.clash(pair[0], pair[1]) && m.clash(pair[1], pair[0]), true);
            m.setClash(pair[0], pair[1], true);
            KIT.is("set twice", m.clash(pair[1], pair[0]), true);
            m.setClash(pair[1], pair[0], false);
            KIT.is("unset the other way round", m.clash(pair[0], pair[1]) || m.clash(pair[1], pair[0]), false);
            m.setClash(pair[0], pair[1], false);
            KIT.is("unset twice", m.clash(pair[0], pair[1]), false);
        }
        m.setClash(3, 4, true);
        m.setClash(3, 3, true);
        m.setClash(3, 3, false);
        KIT.is("no other pair is unset", m.clash(3, 4) && m.clash(4, 3), true);
    }

    private static void setClashOutOfRange() {
        KIT.says("Throws IllegalArgumentException if a trade is out of range");
        StreetMarket m = new StreetMarket();
        for (int wrong : new int[] {-1, 8, 31, 32, 33, MIN, MAX}) {
            for (boolean on : new boolean[] {true, false}) {
                KIT.is("first " + wrong, set(m, wrong, 0, on), IAE);
                KIT.is("second " + wrong, set(m, 7, wrong, on), IAE);
                KIT.is("both " + wrong, set(m, wrong, wrong, on), IAE);
            }
        }
        for (int i = 0; i < 64; i++) {
            KIT.is("nothing clashes", m.clash(i / 8, i % 8), false);
        }
        KIT.isThrown("and no change is made", ISE, m::undo);
    }

    private static void setClashAgainstThePlacement() {
        KIT.says("Throws IllegalStateException if they are to clash and the present placement would not be valid any more");
        StreetMarket m = TestKit.loaded("row 1 1 1 1 1; row 1 1; trader 0 front 2 limit 9; trader 1 front 1 limit 9; trader 2 front 1 limit 9;"
            + "trader 3 front 1 limit 9; trader 0 front 1 limit 9; trader 5 front 1 limit 9;");
        m.place(0, 0);
        m.place(1, 2);
        m.place(2, 4);
        m.place(3, 5);
        m.place(4, 6);
        // The trades stand so: 0 0 1 . 2 and, in the second row, 3 0.
        StringBuilder refused = new StringBuilder();
        for (int i = 0; i < 64; i++) {
            if (set(m, i / 8, i % 8, true).equals(ISE)) {
                refused.append(i / 8).append(i % 8).append(' ');
                KIT.is("not set", m.clash(i / 8, i % 8), false);
            }
        }
        KIT.is("the pairs that stand side by side", refused.toString(), "01 03 10 30 ");
        KIT.is("not to clash is no problem", set(m, 0, 1, false), "set");
        StreetMarket pair = TestKit.loaded("row 1 1; trader 7 front 1 limit 9; trader 7 front 1 limit 9;");
        pair.place(0, 0);
        KIT.is("one alone of a trade that clashes with itself", set(pair, 7, 7, true), "set");
        pair.setClash(7, 7, false);
        pair.place(1, 1);
        KIT.is("two of it", set(pair, 7, 7, true), ISE);
        KIT.is("unset again", set(pair, 7, 7, false), "set");
        StreetMarket full = TestKit.loaded(TWELVE + TWELVE + "trader 0 front 1 limit 99; trader 1 front 1 limit 99; trader 2 front 1 limit 99;");
        full.place(0, 0);
        full.place(1, 22);
        full.place(2, 23);
        KIT.is("the last two pitches of a full market", set(full, 1, 2, true), ISE);
        KIT.is("its first and its last pitch", set(full, 0, 2, true), "set");
        StreetMarket wide = TestKit.loaded("row 1 1 1; trader 7 front 3 limit 9;");
        wide.place(0, 0);
        KIT.is("one on three pitches", set(wide, 7, 7, true), "set");
    }

    private static void setCovers() {
        KIT.says("Sets the number of movable covers.");
        StreetMarket m = new StreetMarket();
        int previous = 0;
        for (int covers : new int[] {0, 4, 4, 3, 0, 1, 2}) {
            KIT.is("setCovers " + covers, m.setCovers(covers), previous);
            previous = covers;
        }
    }

    private static void setCoversOutOfRange() {
        KIT.says("Throws IllegalArgumentException if the number is out of range");
        StreetMarket m = TestKit.loaded("row 1 1; trader 0 front 2 limit 9 cover; covers 2;");
        m.place(0, 0);
        for (int wrong : new int[] {-1, 5, MIN, MAX}) {
            KIT.isThrown("setCovers " + wrong, IAE, () -> m.setCovers(wrong));
        }
        KIT.is("as many as before", m.setCovers(2), 2);
        KIT.is("load, place and this one", m.undo(), 2);
    }

    private static void setCoversBelowThoseInUse() {
        KIT.says("Throws IllegalStateException if the present placement would not be valid any more");
        StreetMarket m = TestKit.loaded("row 1 1 1roof 1 1; trader 0 front 3 limit 9 cover; trader 0 front 2 limit 9 cover; trader 0 front 1 limit 9; covers 4;");
        m.place(0, 0);
        KIT.isThrown("1 of 2", ISE, () -> m.setCovers(1));
        KIT.isThrown("0 of 2", ISE, () -> m.setCovers(0));
        KIT.is("2 of 2", m.setCovers(2), 4);
        KIT.is("3 of 2", m.setCovers(3), 2);
        m.setCovers(4);
        m.place(1, 3);
        for (int covers = 0; covers < 4; covers++) {
            int fewer = covers;
            KIT.isThrown(covers + " of 4", ISE, () -> m.setCovers(fewer));
        }
        KIT.is("4 of 4", m.setCovers(4), 4);
        m.remove(0);
        KIT.isThrown("1 of 2 again", ISE, () -> m.setCovers(1));
        m.remove(1);
        m.place(2, 0);
        KIT.is("who needs no cover does not matter", m.setCovers(0), 4);
    }
}
