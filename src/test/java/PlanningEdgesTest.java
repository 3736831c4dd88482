/** The boundary cases of the best placement, of section 4 and of promises 27 to 35, sentence by sentence. */
public final class PlanningEdgesTest {
    private static final Class<IllegalArgumentException> IAE = IllegalArgumentException.class;
    private static final Class<IllegalStateException> ISE = IllegalStateException.class;
    private static final Class<IndexOutOfBoundsException> IOOBE = IndexOutOfBoundsException.class;
    private static final int MIN = Integer.MIN_VALUE;
    private static final int MAX = Integer.MAX_VALUE;
    private static final String TWELVE = "row 1 1 1 1 1 1 1 1 1 1 1 1;";
    private static final String ONE = "trader 0 front 1 limit 9;";
    private static final TestKit KIT = new TestKit();

    public static void main(String[] args) {
        comparedPitchByPitch();
        greatestIncomeFirst();
        mostTradersNext();
        firstPlacementLast();
        bestIsValid();
        bestIncome();
        bestIncomeOfFullMarkets();
        optimise();
        clashCost();
        coverValue();
        contribution();
        bestRent();
        bestRentOfEqualIncomes();
        bestRentByTryingAll();
        firstComeTakesTheDearest();
        firstComeOrders();
        firstComeWrongOrders();
        insertionPlacesAll();
        insertionMoves();
        insertionGreatestIncome();
        insertionFewestMoved();
        insertionFirst();
        insertionIncome();
        insertionExceptions();
        insert();
        KIT.end("PlanningEdgesTest");
    }

    private static String best(String text) {
        StreetMarket m = TestKit.loaded(text);
        int income = m.bestIncome();
        int placed = m.optimise();
        KIT.is("bestIncome and the income of the placement, " + text, m.income(), income);
        return placed + " " + TestKit.placement(m) + " " + income;
    }

    // ---- section 3: the best placement

    private static void comparedPitchByPitch() {
        KIT.says("at the first pitch at which they differ, the one with the trader with the lower number comes first; a pitch without a trader comes after all traders.");
        KIT.is("the lower number", best("row 5 5;" + ONE + ONE), "2 01 10");
        KIT.is("eight numbers", best("row 5 5 5 5 5 5 5 5;" + ONE.repeat(8)), "8 01234567 40");
        KIT.is("at the first pitch that differs", best("row 5 5 5; trader 0 front 2 limit 10;" + ONE), "2 001 15");
        KIT.is("a free pitch comes last", best("row 5 5 5 5;" + ONE), "1 0... 5");
        KIT.is("even after the trader with the highest number", best("row 5 5 5; clash 0 1; clash 1 1; trader 1 front 1 limit 5; trader 1 front 1 limit 5;"), "2 0.1 10");
        KIT.is("the last pitch decides", best("row 9; row 5 5; trader 0 front 1 limit 9; trader 0 front 1 limit 5;"), "2 01. 14");
    }

    private static void greatestIncomeFirst() {
        KIT.says("The best placement is the valid placement with the greatest income");
        KIT.is("by 1", best("row 5 6;" + ONE), "1 .0 6");
        KIT.is("by 1 against two traders", best("row 5 5 11; clash 1 2; clash 2 2; trader 1 front 1 limit 11; trader 2 front 1 limit 5; trader 2 front 1 limit 5;"), "2 1.0 16");
        KIT.is("one trader for 11 before two for 10", best("row 5 1 5 11; trader 0 front 3 limit 11; clash 0 1; trader 1 front 1 limit 5; trader 1 front 1 limit 5;"), "1 000. 11");
    }

    private static void mostTradersNext() {
        KIT.says("of several, the one with the most placed traders");
        KIT.is("two for 10 before one for 10", best("row 5 5; trader 0 front 2 limit 10; trader 0 front 1 limit 5; trader 0 front 1 limit 5;"), "2 12 10");
        KIT.is("three before two", best("row 1 1 1; trader 0 front 2 limit 2;" + ONE.repeat(3)), "3 123 3");
        KIT.is("three before one", best("row 1 1 1; trader 0 front 3 limit 3;" + ONE.repeat(3)), "3 123 3");
        KIT.is("but not for less income", best("row 1 1 2; trader 0 front 3 limit 4; trader 0 front 1 limit 1; trader 0 front 1 limit 1;"), "1 000 4");
    }

    private static void firstPlacementLast() {
        KIT.says("of several, the first one.");
        KIT.is("one of two equal places", best("row 5; row 5;" + ONE), "1 0. 5");
        KIT.is("of equal pairs", best("row 5 5 5;" + ONE + ONE), "2 01. 10");
        KIT.is("the trader with the lower number comes", best("row 5;" + ONE + ONE), "1 0 5");
        KIT.is("a block of the lower number first", best("row 5 5 5 5 5 5; trader 0 front 2 limit 99; trader 0 front 3 limit 99; trader 0 front 1 limit 99;"), "3 001112 30");
    }

    private static void bestIsValid() {
        KIT.says("A placement is valid if all of these conditions hold");
        KIT.is("the limit, just met", best("row 9; trader 0 front 1 limit 9;"), "1 0 9");
        KIT.is("the limit, by 1 too small", best("row 9; trader 0 front 1 limit 8;"), "0 . 0");
        KIT.is("a block of one row", best("row 5 5; row 5; trader 0 front 3 limit 99;"), "0 ... 0");
        KIT.is("a block of the last row", best("row 5 5; row 5 5 5; trader 0 front 3 limit 99;"), "1 ..000 15");
        KIT.is("covers, just enough", best("row 5 5 5; covers 3; trader 0 front 3 limit 99 cover;"), "1 000 15");
        KIT.is("covers, one too few", best("row 5 5 5; covers 2; trader 0 front 3 limit 99 cover;"), "0 ... 0");
        KIT.is("a roof instead", best("row 5 5roof 5; covers 2; trader 0 front 3 limit 99 cover;"), "1 000 15");
        KIT.is("the most covers", best("row 1 1 1 1 1 1; covers 4;" + "trader 0 front 1 limit 9 cover;".repeat(6)), "4 0123.. 4");
        KIT.is("a clash", best("row 5 5; clash 0 0;" + ONE + ONE), "1 0. 5");
        KIT.is("a free pitch between", best("row 5 1 5; clash 0 0;" + ONE + ONE), "2 0.1 10");
        KIT.is("a row's end between", best("row 5; row 5; clash 0 0;" + ONE + ONE), "2 01 10");
    }

    // ---- promises 27 and 28

    private static void bestIncome() {
        KIT.says("Returns the income, 0 if no trader can be placed.");
        KIT.is("an empty market", new StreetMarket().bestIncome(), 0);
        KIT.is("no traders", TestKit.loaded(TWELVE + TWELVE).bestIncome(), 0);
        KIT.is("no pitches", TestKit.loaded(ONE.repeat(8)).bestIncome(), 0);
        KIT.is("all limits are too small", TestKit.loaded("row 10 10;" + ONE.repeat(8)).bestIncome(), 0);
        KIT.is("the smallest income", TestKit.loaded("row 1; trader 0 front 1 limit 1;").bestIncome(), 1);
        KIT.says("The present placement does not matter.");
        StreetMarket m = TestKit.loaded("row 5 6; clash 0 0;" + ONE + ONE);
        m.place(1, 0);
        KIT.is("one stands elsewhere", m.bestIncome() + TestKit.placement(m), "61.");
        m.clear();
        KIT.is("nobody stands", m.bestIncome(), 6);
    }

    private static void bestIncomeOfFullMarkets() {
        KIT.says("Returns the income of the best placement of the market.");
        String dear = TWELVE.replace("1", "999");
        StreetMarket m = TestKit.loaded(dear + dear + "trader 0 front 3 limit 2997;".repeat(8));
        KIT.is("all pitches of the dearest market", m.bestIncome(), 24 * 999);
        KIT.is("all traders", m.optimise() + TestKit.placement(m), "8000111222333444555666777");
        StreetMarket poor = TestKit.loaded(dear + dear + "trader 0 front 3 limit 2996;".repeat(8));
        KIT.is("limits one too small", poor.bestIncome(), 0);
        StreetMarket apart = TestKit.loaded(TWELVE + TWELVE + "clash 0 0;" + "trader 0 front 3 limit 9;".repeat(8));
        KIT.is("three blocks a row", apart.optimise() + " " + apart.income(), "6 18");
        StringBuilder all = new StringBuilder();
        for (int first = 0; first < 8; first++) {
            for (int second = first; second < 8; second++) {
                all.append("clash" + first + ' ' + second + ';');
            }
        }
        StreetMarket foes = TestKit.loaded(TWELVE + TWELVE + all);
        for (int t = 0; t < 8; t++) {
            foes.addTrader(t, 1, 1, false);
        }
        KIT.is("all clash, and there is room between them", foes.optimise() + TestKit.placement(foes), "80.1.2.3.4.5.6.7.........");
    }

    private static void optimise() {
        KIT.says("Returns the number of placed traders.");
        KIT.is("an empty market", new StreetMarket().optimise(), 0);
        KIT.is("no pitches", TestKit.loaded(ONE).optimise(), 0);
        KIT.is("no traders", TestKit.loaded("row 1;").optimise(), 0);
        KIT.says("Makes the best placement the present one.");
        StreetMarket m = TestKit.loaded("row 5 9 5;" + ONE + "trader 0 front 2 limit 14;");
        m.place(0, 1);
        KIT.is("another place", m.optimise() + TestKit.placement(m) + m.income(), "201119");
        KIT.is("once more", m.optimise() + TestKit.placement(m), "2011");
        StreetMarket other = TestKit.loaded("row 5;" + ONE + ONE);
        other.place(1, 0);
        KIT.is("somebody leaves", other.optimise() + TestKit.placement(other) + other.start(1), "10-1");
        StreetMarket cover = TestKit.loaded("row 5 5 6; covers 4; trader 0 front 3 limit 99 cover;");
        cover.optimise();
        KIT.is("covers are in use", cover.coversUsed(), 3);
        KIT.isThrown("and cannot be taken away", ISE, () -> cover.setCovers(2));
    }

    // ---- promises 29 to 32

    private static void clashCost() {
        KIT.says("Returns the difference, 0 if they do not clash.");
        KIT.is("an empty market", new StreetMarket().clashCost(0, 7), 0);
        KIT.is("a clash without traders", TestKit.loaded("row 5; clash 0 0;").clashCost(0, 0), 0);
        KIT.is("a clash without pitches", TestKit.loaded(ONE + ONE + "clash 0 0;").clashCost(0, 0), 0);
        StreetMarket self = TestKit.loaded("row 5 6; clash 7 7; clash 0 7; trader 7 front 1 limit 9; trader 7 front 1 limit 9;");
        KIT.is("a trade with itself", self.clashCost(7, 7), 5);
        KIT.is("another trade with it", self.clashCost(0, 7), 0);
        KIT.is("no clash", self.clashCost(0, 0), 0);
        StreetMarket pair = TestKit.loaded("row 5 6; clash 7 0; trader 0 front 1 limit 9; trader 7 front 1 limit 9;");
        KIT.is("both ways round", pair.clashCost(0, 7) + " " + pair.clashCost(7, 0), "5 5");
        KIT.is("they clash all the same", pair.clash(0, 7) + " " + pair.bestIncome(), "true 6");
        pair.setClash(0, 7, false);
        KIT.is("once they do not clash", pair.clashCost(0, 7), 0);
        StreetMarket two = TestKit.loaded("row 5 6 7; clash 0 1; clash 1 2; trader 0 front 1 limit 9; trader 1 front 1 limit 6; trader 2 front 1 limit 9;");
        // With both clashes 0 and 2 stand side by side for 13; without one of them all three stand for 18.
        KIT.is("other clashes stay", two.clashCost(0, 1) + " " + two.clashCost(1, 2), "5 5");
        KIT.says("Throws IllegalArgumentException if a trade is out of range");
        for (int wrong : new int[] {-1, 8, 31, 32, MIN, MAX}) {
            KIT.isThrown("first " + wrong, IAE, () -> pair.clashCost(wrong, 7));
            KIT.isThrown("second " + wrong, IAE, () -> pair.clashCost(0, wrong));
            KIT.isThrown("both " + wrong, IAE, () -> pair.clashCost(wrong, wrong));
        }
    }

    private static void coverValue() {
        KIT.says("Returns the difference, also if there are 4 movable covers.");
        KIT.is("an empty market", new StreetMarket().coverValue(), 0);
        String street = "row 1 2 3 4 5 6;" + "trader 0 front 1 limit 9 cover;".repeat(6);
        int[] due = {6, 5, 4, 3, 2};
        for (int covers = 0; covers <= 4; covers++) {
            StreetMarket m = TestKit.loaded(street + "covers " + covers + ";");
            KIT.is("one more than " + covers, m.coverValue(), due[covers]);
            KIT.is("the covers stay", m.setCovers(covers), covers);
        }
        KIT.is("a sixth is not thought of", TestKit.loaded("row 1 1 1 1 1 1; covers 4; trader 0 front 3 limit 9 cover; trader 0 front 3 limit 9 cover;").coverValue(), 0);
        KIT.is("all pitches are roofed", TestKit.loaded("row 1roof 2roof; trader 0 front 1 limit 9 cover;").coverValue(), 0);
        KIT.is("nobody needs one", TestKit.loaded("row 1 2;" + ONE).coverValue(), 0);
        KIT.is("four, and nobody needs one", TestKit.loaded("row 1 2; covers 4;" + ONE).coverValue(), 0);
    }

    private static void contribution() {
        KIT.says("Returns by how much the income of the best placement would be smaller if a trader stayed away.");
        KIT.is("no pitches", TestKit.loaded(ONE).contribution(0), 0);
        KIT.is("alone", TestKit.loaded("row 1 9;" + ONE).contribution(0), 9);
        KIT.is("who cannot be placed", TestKit.loaded("row 10;" + ONE).contribution(0), 0);
        StreetMarket m = TestKit.loaded("row 9 5; trader 0 front 1 limit 9; trader 0 front 1 limit 5;");
        m.place(1, 1);
        KIT.is("each of two", m.contribution(0) + " " + m.contribution(1), "9 5");
        KIT.is("nobody has gone", TestKit.placement(m) + m.bestIncome(), ".114");
        StreetMarket eight = TestKit.loaded("row 8 7 6 5 4 3 2 1;" + "trader 0 front 1 limit 8;".repeat(8));
        KIT.is("the first and the last of eight", eight.contribution(0) + " " + eight.contribution(7), "1 1");
        KIT.is("who has a twin", TestKit.loaded("row 9;" + ONE + ONE).contribution(1), 0);
    }

    private static int rentOf(int pitch, String text) {
        return TestKit.loaded(text).bestRent(pitch);
    }

    private static void bestRent() {
        KIT.says("Returns the rent of a pitch, from 1 to 999, with which the income of the best placement would be greatest, all other rents being as they are.");
        int[][] limits = {{1, 1}, {2, 2}, {998, 998}, {999, 999}, {1000, 999}, {9999, 999}};
        for (int[] pair : limits) {
            KIT.is("limit " + pair[0], rentOf(0, "row 500; trader 0 front 1 limit " + pair[0] + ";"), pair[1]);
        }
        int[][] wide = {{1998, 1}, {1999, 1}, {2000, 2}, {2996, 998}, {2997, 999}, {2998, 999}};
        for (int[] pair : wide) {
            for (int pitch = 0; pitch < 3; pitch++) {
                KIT.is("limit " + pair[0] + " of three", rentOf(pitch, "row 999 999 999; trader 0 front 3 limit " + pair[0] + ";"), pair[1]);
            }
        }
        StreetMarket full = TestKit.loaded(TWELVE + TWELVE + "trader 0 front 3 limit 9999;".repeat(8));
        KIT.is("the first and the last pitch", full.bestRent(0) + " " + full.bestRent(11) + " " + full.bestRent(12) + " " + full.bestRent(23), "999 999 999 999");
        KIT.is("all rents are as before", full.rent(0) + " " + full.rent(23) + " " + full.bestIncome(), "1 1 24");
        KIT.is("with no cover left", rentOf(1, "row 5 5; covers 1; trader 0 front 2 limit 99 cover;"), 1);
        KIT.is("with just covers enough", rentOf(1, "row 5 5; covers 2; trader 0 front 2 limit 99 cover;"), 94);
        // The second trader, on the pitch of 8, leaves no place for the first one beside it: the pitch had best stay free.
        String foes = "clash 0 1; trader 0 front 1 limit 7; trader 1 front 1 limit 8;";
        KIT.is("a clash at the last pitch", rentOf(1, "row 8 5;" + foes), 1);
        KIT.is("a clash at the last pitch of a row", rentOf(1, "row 8 5; row 9;" + foes), 1);
        KIT.is("a clash at the first pitch", rentOf(0, "row 5 8;" + foes), 1);
        KIT.is("a clash at the first pitch of a row", rentOf(1, "row 9; row 5 8;" + foes), 1);
        KIT.is("no clash beyond the row's end", rentOf(1, "row 8; row 5;" + foes) + " " + rentOf(0, "row 5; row 8;" + foes), "7 7");
    }

    private static void bestRentOfEqualIncomes() {
        KIT.says("Among equal incomes the lowest rent is taken.");
        KIT.is("no traders", rentOf(0, "row 500;"), 1);
        KIT.is("nobody can be placed", rentOf(0, "row 500 500; trader 0 front 3 limit 9999;"), 1);
        KIT.is("as good elsewhere", rentOf(0, "row 5 5; trader 0 front 1 limit 5;"), 1);
        KIT.is("worse elsewhere by 1", rentOf(0, "row 5 4; trader 0 front 1 limit 5;"), 5);
        KIT.is("better elsewhere by 1", rentOf(0, "row 5 6; trader 0 front 1 limit 6;"), 1);
        KIT.is("the present rent does not matter", rentOf(0, "row 999 4; trader 0 front 1 limit 5;"), 5);
        // For 30 both traders stand, 30 + 31; for 61 only one of them does: the lower rent is taken.
        KIT.is("two rents with the same income",
            rentOf(0, "row 5 31; clash 1 2; trader 0 front 1 limit 30; trader 1 front 1 limit 61; trader 2 front 1 limit 31;"), 30);
    }

    private static void bestRentByTryingAll() {
        KIT.says("Returns the rent of a pitch, from 1 to 999, with which the income of the best placement would be greatest, all other rents being as they are.");
        String[] streets = {
            "row 9 30 4roof; row 20 7; covers 1; clash 0 1; trader 0 front 2 limit 60; trader 1 front 1 limit 25 cover; trader 1 front 2 limit 40;",
            "row 7 20; row 4roof 30 9; covers 1; clash 0 1; trader 0 front 2 limit 60; trader 1 front 1 limit 25 cover; trader 1 front 2 limit 40;",
            "row 5 6 7 8 9; covers 4; clash 0 0; trader 0 front 1 limit 9 cover; trader 0 front 1 limit 900 cover; trader 1 front 1 limit 30 cover; trader 1 front 3 limit 40 cover;",
            "row 50; row 40; row 30; row 20; covers 2; trader 0 front 1 limit 45 cover; trader 0 front 1 limit 35 cover; trader 0 front 1 limit 25 cover;",
            "row 1 1 1 1; trader 0 front 3 limit 999; trader 0 front 3 limit 998; trader 0 front 1 limit 997; trader 0 front 2 limit 9999;",
            "row 1 1; row 40 50 5; trader 0 front 2 limit 90; trader 0 front 1 limit 10;",
            "row 1 1; row 40roof 50roof 5roof; trader 0 front 2 limit 90 cover; trader 0 front 1 limit 10;",
            "row 5 50 40; row 1 1; trader 0 front 2 limit 90; trader 0 front 1 limit 10;",
            "row 5roof 50roof 40roof; row 1 1; trader 0 front 2 limit 90 cover; trader 0 front 1 limit 10;",
            "row 10roof 20 10roof 20; covers 1; clash 0 1; clash 0 2; trader 0 front 1 limit 30 cover; trader 1 front 1 limit 31 cover; trader 2 front 1 limit 32 cover; trader 2 front 2 limit 33;"};
        for (String street : streets) {
            for (int pitch = TestKit.loaded(street).pitchCount() - 1; pitch >= 0; pitch--) {
                KIT.is("pitch " + pitch + " of " + street, rentOf(pitch, street), rentByTryingAll(pitch, street));
            }
        }
    }

    private static int rentByTryingAll(int pitch, String street) {
        StreetMarket m = TestKit.loaded(street);
        int most = -1;
        int answer = 0;
        for (int rent = 1; rent <= 999; rent++) {
            m.setRent(pitch, rent);
            if (m.bestIncome() > most) {
                most = m.bestIncome();
                answer = rent;
            }
        }
        return answer;
    }

    // ---- promise 33

    private static void firstComeTakesTheDearest() {
        KIT.says("Each trader takes the start at which it can be placed and has the greatest rent; among equal rents the lowest pitch.");
        KIT.is("the greatest rent", TestKit.loaded("row 5 8 6;" + ONE).firstCome(1), 8);
        KIT.is("the limit, just met", TestKit.loaded("row 5 9 10;" + ONE).firstCome(1), 9);
        KIT.is("the sum of a block", TestKit.loaded("row 5 1 4 3; trader 0 front 2 limit 9;").firstCome(1), 7);
        // The first one takes pitch 0, so that the second one finds pitch 2 free of clashes.
        KIT.is("the lowest pitch", TestKit.loaded("row 5 5 5; clash 0 0; trader 0 front 1 limit 5; trader 0 front 1 limit 5;").firstCome(12), 10);
        KIT.is("the lowest pitch, in the way of a block", TestKit.loaded("row 5 5 5; trader 0 front 1 limit 5; trader 0 front 2 limit 10;").firstCome(12), 15);
        KIT.says("A trader who cannot be placed is not placed.");
        StreetMarket poor = TestKit.loaded("row 5; trader 0 front 1 limit 4; trader 0 front 1 limit 5; trader 0 front 2 limit 99;");
        KIT.is("alone", poor.firstCome(1) + " " + poor.firstCome(3), "0 0");
        KIT.is("before another", poor.firstCome(12) + " " + poor.firstCome(132), "5 5");
        KIT.is("after another", poor.firstCome(21) + " " + poor.firstCome(213), "5 5");
        KIT.is("no cover is left", TestKit.loaded("row 5 6; covers 1; trader 0 front 1 limit 9 cover; trader 0 front 1 limit 9 cover;").firstCome(12), 6);
        KIT.is("a clash everywhere", TestKit.loaded("row 5 6; clash 0 0;" + ONE + ONE).firstCome(21), 6);
    }

    private static void firstComeOrders() {
        KIT.says("0 if nobody comes");
        KIT.is("an empty market", new StreetMarket().firstCome(0), 0);
        StreetMarket m = TestKit.loaded("row 9 7 5;" + ONE + "trader 0 front 1 limit 7; trader 0 front 1 limit 9;");
        KIT.is("nobody", m.firstCome(0), 0);
        KIT.says("the decimal digits of this number, from the highest to the lowest; each digit is the number of a trader plus 1");
        StreetMarket order = TestKit.loaded("row 9 8; trader 0 front 1 limit 9; trader 0 front 2 limit 17; clash 0 0;");
        KIT.is("1, then 2", order.firstCome(12), 9);
        KIT.is("2, then 1", order.firstCome(21), 17);
        StreetMarket eight = TestKit.loaded("row 1 2 3 4 5 6 7 8;" + ONE.repeat(8));
        KIT.is("all eight", eight.firstCome(12345678) + " " + eight.firstCome(87654321), "36 36");
        KIT.is("the eighth alone", eight.firstCome(8), 8);
        KIT.says("with no trader placed at first");
        m.place(0, 0);
        m.place(2, 1);
        KIT.is("the present placement does not matter", m.firstCome(1) + " " + m.firstCome(13), "9 16");
        KIT.is("and stays", TestKit.placement(m) + m.income(), "02.16");
    }

    private static void firstComeWrongOrders() {
        KIT.says("Throws IllegalArgumentException if order is negative, a digit does not stand for an existing trader, or a digit occurs twice");
        StreetMarket none = TestKit.loaded("row 1;");
        StreetMarket three = TestKit.loaded("row 1;" + ONE.repeat(3));
        StreetMarket eight = TestKit.loaded("row 1;" + ONE.repeat(8));
        long[] always = {-1, -12, Long.MIN_VALUE, 9, 10, 19, 91, 20, 102, 1020, 11, 22, 121, 1231, 100000000, 123456780, 123456789,
            112345678, 123456781, 876543212, 1111111111111111111L, Long.MAX_VALUE, 4294967297L, 1000000000000000000L};
        for (long wrong : always) {
            KIT.isThrown("order " + wrong + " of eight", IAE, () -> eight.firstCome(wrong));
            KIT.isThrown("order " + wrong + " of three", IAE, () -> three.firstCome(wrong));
            KIT.isThrown("order " + wrong + " of none", IAE, () -> none.firstCome(wrong));
        }
        for (long wrong : new long[] {4, 14, 41, 1234, 4123, 8}) {
            KIT.isThrown("order " + wrong + " of three", IAE, () -> three.firstCome(wrong));
            KIT.is("order " + wrong + " of eight", eight.firstCome(wrong), 1);
        }
        KIT.isThrown("1 of none", IAE, () -> none.firstCome(1));
        KIT.is("3 of three", three.firstCome(3), 1);
    }

    // ---- section 4 and promises 34 and 35

    private static String inserted(StreetMarket m, int trader, int moves) {
        return TestKit.outcome(() -> m.insert(trader, moves)) + " " + TestKit.placement(m);
    }

    private static void insertionPlacesAll() {
        KIT.says("is a valid placement in which this trader and all traders of the present placement are placed, all others are not");
        StreetMarket m = TestKit.loaded("row 1 9; trader 0 front 1 limit 1; trader 0 front 2 limit 10;" + ONE);
        m.place(0, 0);
        KIT.is("nobody is sent away", m.insertionIncome(1, 2), -1);
        KIT.is("nobody else comes", inserted(m, 2, 2) + m.start(1), "0 02-1");
        StreetMarket free = TestKit.loaded("row 5 9 9;" + ONE + ONE);
        KIT.is("nobody stands", inserted(free, 0, 0), "0 .0.");
        free.undo();
        KIT.is("nobody stands, two moves", inserted(free, 1, 2), "0 .1.");
        StreetMarket limit = TestKit.loaded("row 9 5; trader 0 front 1 limit 5; trader 0 front 1 limit 8;");
        limit.place(0, 1);
        KIT.is("limits hold", limit.insertionIncome(1, 2), -1);
        StreetMarket cover = TestKit.loaded("row 5 5 5; covers 1; trader 0 front 1 limit 9 cover; trader 0 front 1 limit 9 cover;");
        cover.place(0, 0);
        KIT.is("covers hold", cover.insertionIncome(1, 2), -1);
        cover.setCovers(2);
        KIT.is("just covers enough", inserted(cover, 1, 0) + cover.coversUsed(), "0 01.2");
        StreetMarket clash = TestKit.loaded("row 5 5; clash 0 0;" + ONE + ONE);
        clash.place(0, 0);
        KIT.is("clashes hold", clash.insertionIncome(1, 2), -1);
    }

    /** The newcomer fits the first row alone, and each of those who stand there must go to a row of its own. */
    private static StreetMarket crowded() {
        return TestKit.loaded("row 1 1 1; row 1; row 1; row 1;" + ONE.repeat(3) + "trader 0 front 3 limit 9;");
    }

    private static void insertionMoves() {
        KIT.says("and at most m traders of the present placement have another start than in the present placement.");
        for (int standing = 0; standing <= 3; standing++) {
            for (int moves = 0; moves <= 2; moves++) {
                StreetMarket m = crowded();
                for (int t = 0; t < standing; t++) {
                    m.place(t, t);
                }
                boolean possible = standing <= moves;
                String before = TestKit.placement(m);
                KIT.is(standing + " in the way, " + moves + " moves", m.insertionIncome(3, moves), possible ? standing + 3 : -1);
                KIT.is("the same, inserted", inserted(m, 3, moves),
                    possible ? standing + " 333" + "01".substring(0, standing) + ".".repeat(3 - standing) : ISE + " " + before);
            }
        }
        StreetMarket exchange = TestKit.loaded("row 1 1 1; clash 0 2; trader 0 front 1 limit 9; trader 1 front 1 limit 9; trader 2 front 1 limit 9;");
        exchange.place(0, 1);
        exchange.place(1, 0);
        KIT.is("one move does not help", exchange.insertionIncome(2, 1), -1);
        KIT.is("two exchange their starts", inserted(exchange, 2, 2), "2 012");
    }

    private static void insertionGreatestIncome() {
        KIT.says("The best insertion is the one with the greatest income");
        StreetMarket m = TestKit.loaded("row 1 2 9; trader 0 front 1 limit 9; trader 0 front 1 limit 2;");
        m.place(0, 0);
        KIT.is("by moves", m.insertionIncome(1, 0) + " " + m.insertionIncome(1, 1) + " " + m.insertionIncome(1, 2), "3 11 11");
        KIT.is("more income before fewer moves", inserted(m, 1, 2), "1 .10");
        StreetMarket two = TestKit.loaded("row 1 2 3 4; trader 0 front 1 limit 4; trader 0 front 1 limit 4; trader 0 front 1 limit 2;");
        two.place(0, 0);
        two.place(1, 1);
        KIT.is("two moves for 1 more", two.insertionIncome(2, 0) + " " + two.insertionIncome(2, 1) + " " + two.insertionIncome(2, 2), "-1 7 9");
        KIT.is("both go", inserted(two, 2, 2), "2 .201");
    }

    private static void insertionFewestMoved() {
        KIT.says("of several, the one with the fewest moved traders");
        StreetMarket m = TestKit.loaded("row 5 5 5 5;" + ONE + ONE);
        m.place(0, 1);
        KIT.is("none, though 01.. comes first", inserted(m, 1, 2), "0 10..");
        StreetMarket one = TestKit.loaded("row 1 1 1 1;" + ONE + ONE + "trader 0 front 2 limit 9;");
        one.place(0, 1);
        one.place(1, 3);
        KIT.is("one, though 0122 comes first", inserted(one, 2, 2), "1 0221");
        // The newcomer can pay for the pitches 2 and 3 alone: 1 must go; that 0 goes too would change no income.
        StreetMarket last = TestKit.loaded("row 4 9 1 1; row 4; trader 0 front 1 limit 4; trader 0 front 1 limit 9; trader 0 front 2 limit 2;");
        last.place(0, 0);
        last.place(1, 2);
        KIT.is("only the one who must", inserted(last, 2, 2), "1 0122.");
        StreetMarket first = TestKit.loaded("row 4 9 1 1; row 4; trader 0 front 1 limit 9; trader 0 front 1 limit 4; trader 0 front 2 limit 2;");
        first.place(1, 0);
        first.place(0, 2);
        KIT.is("only the one who must, with the lower number", inserted(first, 2, 2), "1 1022.");
    }

    private static void insertionFirst() {
        KIT.says("of several, the first one.");
        StreetMarket m = TestKit.loaded("row 5 5 5;" + ONE + ONE);
        m.place(0, 1);
        KIT.is("a free pitch comes last", inserted(m, 1, 0), "0 10.");
        StreetMarket n = TestKit.loaded("row 5 5 5 5; trader 0 front 3 limit 15;" + ONE);
        n.place(1, 1);
        KIT.is("the lower number first", inserted(n, 0, 1), "1 0001");
        StreetMarket p = TestKit.loaded("row 5 5 5 5;" + ONE + "trader 0 front 3 limit 15;");
        p.place(0, 1);
        KIT.is("the lower number first, the other way round", inserted(p, 1, 1), "1 0111");
    }

    private static void insertionIncome() {
        KIT.says("Returns the income; -1 if there is no insertion.");
        KIT.is("no pitches", TestKit.loaded(ONE).insertionIncome(0, 2), -1);
        KIT.is("the limit is too small", TestKit.loaded("row 10;" + ONE).insertionIncome(0, 2), -1);
        KIT.is("the limit is just met", TestKit.loaded("row 9;" + ONE).insertionIncome(0, 0), 9);
        KIT.is("the row is too short", TestKit.loaded("row 1 1; row 1 1; trader 0 front 3 limit 9;").insertionIncome(0, 2), -1);
        StreetMarket full = TestKit.loaded(TWELVE + TWELVE + "trader 0 front 3 limit 9;".repeat(8));
        full.optimise();
        full.remove(7);
        KIT.is("the last block of a full street", full.insertionIncome(7, 0) + " " + full.insertionIncome(7, 2), "24 24");
        KIT.is("asking places nobody", full.start(7) + " " + full.income(), "-1 21");
        StreetMarket taken = TestKit.loaded(TWELVE + "trader 0 front 3 limit 9;".repeat(5));
        taken.optimise();
        KIT.is("no pitch is left", taken.insertionIncome(4, 2), -1);
    }

    private static void insertionExceptions() {
        StreetMarket m = TestKit.loaded("row 5;" + ONE + ONE);
        m.place(0, 0);
        KIT.says("Throws IndexOutOfBoundsException if the trader does not exist");
        for (int wrong : new int[] {-1, 2, 8, 32, MIN, MAX}) {
            KIT.isThrown("insertionIncome of " + wrong, IOOBE, () -> m.insertionIncome(wrong, 0));
            KIT.isThrown("insert " + wrong, IOOBE, () -> m.insert(wrong, 0));
            KIT.isThrown("insertionIncome of " + wrong + " with wrong moves", IOOBE, () -> m.insertionIncome(wrong, 3));
            KIT.isThrown("insert " + wrong + " with wrong moves", IOOBE, () -> m.insert(wrong, -1));
        }
        KIT.says("Throws IllegalArgumentException if moves is out of range");
        for (int wrong : new int[] {-1, 3, MIN, MAX}) {
            KIT.isThrown("insertionIncome, " + wrong + " moves", IAE, () -> m.insertionIncome(1, wrong));
            KIT.isThrown("insert, " + wrong + " moves", IAE, () -> m.insert(1, wrong));
            KIT.isThrown("insertionIncome of a placed one, " + wrong + " moves", IAE, () -> m.insertionIncome(0, wrong));
            KIT.isThrown("insert a placed one, " + wrong + " moves", IAE, () -> m.insert(0, wrong));
        }
        for (int moves = 0; moves <= 2; moves++) {
            int most = moves;
            KIT.says("Throws IllegalStateException if the trader is placed");
            KIT.isThrown("insertionIncome of a placed one, " + moves + " moves", ISE, () -> m.insertionIncome(0, most));
            KIT.isThrown("insert a placed one, " + moves + " moves", ISE, () -> m.insert(0, most));
            KIT.says("or if there is no insertion");
            KIT.is("insertionIncome without an insertion, " + moves + " moves", m.insertionIncome(1, most), -1);
            KIT.isThrown("insert without an insertion, " + moves + " moves", ISE, () -> m.insert(1, most));
        }
        KIT.is("nothing is different", TestKit.placement(m) + m.undo(), "01");
    }

    private static void insert() {
        KIT.says("Makes the best insertion of a trader the present placement (section 4).");
        StreetMarket m = TestKit.loaded("row 9 5 5; covers 1; trader 0 front 1 limit 9; trader 0 front 1 limit 9 cover;");
        m.place(0, 0);
        int income = m.insertionIncome(1, 1);
        KIT.is("it answers the moved ones", m.insert(1, 1), 0);
        KIT.is("it is the present placement", TestKit.placement(m) + m.income() + " " + m.coversUsed(), "01.14 1");
        KIT.is("with the income that was told", m.income(), income);
        KIT.isThrown("its cover is in use", ISE, () -> m.setCovers(0));
        KIT.isThrown("it is placed now", ISE, () -> m.insert(1, 1));
        KIT.is("undone in one step", m.undo() + TestKit.placement(m), "20..");
    }
}
