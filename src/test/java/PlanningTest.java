import java.util.Random;

/** Promises 27 to 35: planning and late comers. */
public final class PlanningTest {
    private static final Class<IllegalArgumentException> IAE = IllegalArgumentException.class;
    private static final Class<IllegalStateException> ISE = IllegalStateException.class;
    private static final Class<IndexOutOfBoundsException> IOOBE = IndexOutOfBoundsException.class;
    private static final int[] NO_INDEX = {-1, 8, 24, Integer.MIN_VALUE, Integer.MAX_VALUE};
    private static final TestKit KIT = new TestKit();

    public static void main(String[] args) {
        bestIncome();
        bestFollowsEveryChange();
        optimise();
        optimiseTies();
        clashCost();
        coverValue();
        contribution();
        bestRent();
        bestRentByTryingAll();
        firstCome();
        insertion();
        insertionTies();
        insertionWrongInputs();
        KIT.end("PlanningTest");
    }

    private static int best(String text) {
        return TestKit.loaded(text).bestIncome();
    }

    private static String optimum(String text) {
        StreetMarket m = TestKit.loaded(text);
        int placed = m.optimise();
        return placed + " " + TestKit.placement(m) + " " + m.income();
    }

    private static void bestIncome() {
        KIT.is("no traders", best("row 5 5;"), 0);
        KIT.is("no pitches", best("trader 0 front 1 limit 5;"), 0);
        KIT.is("nobody can pay", best("row 5 5; trader 0 front 1 limit 4;"), 0);
        KIT.is("rent as the limit", best("row 5 6; trader 0 front 1 limit 5;"), 5);
        KIT.is("the row is too short", best("row 5 5; row 5; trader 0 front 3 limit 99;"), 0);
        KIT.is("two rows", best("row 1 9; row 9 1; trader 0 front 2 limit 99; trader 0 front 2 limit 99;"), 20);
        KIT.is("a clash", best("row 5 5; clash 0 1; trader 0 front 1 limit 9; trader 1 front 1 limit 9;"), 5);
        KIT.is("a clash with itself", best("row 5 5; clash 0 0; trader 0 front 1 limit 9; trader 0 front 1 limit 9;"), 5);
        KIT.is("one between them", best("row 5 5 4; clash 0 1; trader 0 front 1 limit 9; trader 1 front 1 limit 9; trader 2 front 1 limit 9;"), 14);
        KIT.is("rows part them", best("row 5; row 5; clash 0 1; trader 0 front 1 limit 9; trader 1 front 1 limit 9;"), 10);
        KIT.is("no cover", best("row 5 5; trader 0 front 2 limit 99 cover;"), 0);
        KIT.is("a cover too few", best("row 5 5; covers 1; trader 0 front 2 limit 99 cover;"), 0);
        KIT.is("covers enough", best("row 5 5; covers 2; trader 0 front 2 limit 99 cover;"), 10);
        KIT.is("a roof and a cover", best("row 5 5roof; covers 1; trader 0 front 2 limit 99 cover;"), 10);
        KIT.is("covers are shared", best("row 5 6 7; covers 2; trader 0 front 1 limit 9 cover; trader 0 front 1 limit 9 cover; trader 0 front 1 limit 9 cover;"), 13);
        KIT.is("the largest market", best("row 999 999 999 999 999 999 999 999 999 999 999 999;row 999 999 999 999 999 999 999 999 999 999 999 999;"
            + "trader 0 front 3 limit 9999;trader 1 front 3 limit 9999;trader 2 front 3 limit 9999;trader 3 front 3 limit 9999;"
            + "trader 4 front 3 limit 9999;trader 5 front 3 limit 9999;trader 6 front 3 limit 9999;trader 7 front 3 limit 9999;"), 24 * 999);
        StreetMarket m = TestKit.loaded("row 5 6; trader 0 front 1 limit 9;");
        m.place(0, 0);
        KIT.is("the present placement does not matter", m.bestIncome() + " " + m.start(0) + " " + m.income(), "6 0 5");
    }

    private static void bestFollowsEveryChange() {
        StreetMarket covered = TestKit.loaded("row 5 6 7; trader 0 front 3 limit 99 cover;");
        KIT.is("no covers", covered.bestIncome(), 0);
        covered.setCovers(4);
        KIT.is("after setCovers to 4", covered.bestIncome(), 18);
        StreetMarket grown = TestKit.loaded("row 5 6;");
        for (int t = 0; t < 2; t++) {
            grown.addTrader(0, 1, 9, false);
            KIT.is("after addTrader " + t, grown.bestIncome(), t == 0 ? 6 : 11);
        }
        StreetMarket m = TestKit.loaded("row 5 6; trader 0 front 1 limit 9;");
        KIT.is("at first", m.bestIncome(), 6);
        m.setRent(1, 8);
        KIT.is("after setRent", m.bestIncome(), 8);
        m.addTrader(1, 1, 9, true);
        KIT.is("after addTrader", m.bestIncome(), 8);
        m.setCovers(1);
        KIT.is("after setCovers", m.bestIncome(), 13);
        m.setClash(0, 1, true);
        KIT.is("after setClash", m.bestIncome(), 8);
        m.undo();
        KIT.is("after undo", m.bestIncome(), 13);
        KIT.is("clashCost of a pair that does not clash", m.clashCost(0, 1), 0);
        m.setClash(0, 1, true);
        KIT.is("clashCost", m.clashCost(0, 1), 5);
        KIT.is("after clashCost", m.bestIncome(), 8);
        m.bestRent(0);
        KIT.is("after bestRent", m.bestIncome(), 8);
        TestKit.load(m, "row 3; trader 0 front 1 limit 3;");
        KIT.is("after load", m.bestIncome(), 3);
    }

    private static void optimise() {
        KIT.is("nothing to place", optimum("row 5;"), "0 . 0");
        KIT.is("the dearest pitch", optimum("row 5 7 6; trader 0 front 1 limit 9;"), "1 .0. 7");
        KIT.is("who pays more goes where it costs more", optimum("row 9 5; trader 0 front 1 limit 5; trader 0 front 1 limit 9;"), "2 10 14");
        StreetMarket m = TestKit.loaded("row 5 7; trader 0 front 1 limit 9; trader 1 front 1 limit 7; clash 0 1; clash 1 1;");
        m.place(1, 0);
        KIT.is("optimise", m.optimise(), 1);
        KIT.is("the best placement is the present one", TestKit.placement(m) + m.income(), ".07");
        KIT.is("again", m.optimise() + " " + TestKit.placement(m), "1 .0");
        KIT.is("it is a change, twice", m.undo() + " " + TestKit.placement(m) + m.undo() + " " + TestKit.placement(m), "3 .02 1.");
    }

    private static void optimiseTies() {
        KIT.is("the lower number first", optimum("row 5 5; trader 0 front 1 limit 9; trader 0 front 1 limit 9;"), "2 01 10");
        KIT.is("the free pitch last", optimum("row 5 5 5; trader 0 front 1 limit 9;"), "1 0.. 5");
        KIT.is("equal incomes: the most traders", optimum("row 5 5; trader 0 front 2 limit 10; trader 0 front 1 limit 9; trader 0 front 1 limit 9;"), "2 12 10");
        KIT.is("the income counts before the number", optimum("row 4 5 5; trader 0 front 3 limit 14; trader 0 front 1 limit 5; trader 0 front 1 limit 4;"), "1 000 14");
        KIT.is("the first pitch decides", optimum("row 5 5 5; trader 0 front 1 limit 9; trader 1 front 2 limit 10;"), "2 011 15");
        KIT.is("with a clash", optimum("row 5 5 5; clash 0 0; trader 0 front 1 limit 9; trader 0 front 1 limit 9;"), "2 0.1 10");
        KIT.is("a third one parts them", optimum("row 5 5 5; clash 0 1; trader 0 front 1 limit 9; trader 1 front 1 limit 9; trader 2 front 1 limit 9;"), "3 021 15");
        KIT.is("two rows", optimum("row 5; row 5 5; clash 0 0; trader 0 front 1 limit 9; trader 0 front 1 limit 9;"), "2 01. 10");
        KIT.is("the roof goes to who needs it", optimum("row 5 5roof; trader 0 front 1 limit 9; trader 0 front 1 limit 9 cover;"), "2 01 10");
        KIT.is("the roof goes to who needs it, the other way", optimum("row 5roof 5; trader 0 front 1 limit 9; trader 0 front 1 limit 9 cover;"), "2 10 10");
        KIT.is("the cover goes to the lower number", optimum("row 5 5; covers 1; trader 0 front 1 limit 9 cover; trader 0 front 1 limit 9 cover;"), "1 0. 5");
    }

    private static void clashCost() {
        StreetMarket m = TestKit.loaded("row 9 7 5; clash 0 1; clash 2 2; trader 0 front 1 limit 9; trader 1 front 1 limit 9; trader 2 front 1 limit 3;");
        KIT.is("clash apart", m.clashCost(0, 1), 2);
        KIT.is("the other way round", m.clashCost(1, 0), 2);
        KIT.is("a clash that costs nothing", m.clashCost(2, 2), 0);
        KIT.is("no clash", m.clashCost(0, 2), 0);
        KIT.is("still clashing", m.clash(0, 1), true);
        KIT.is("the same trade", TestKit.loaded("row 5 6; clash 3 3; trader 3 front 1 limit 9; trader 3 front 1 limit 9;").clashCost(3, 3), 5);
        for (int wrong : new int[] {-1, 8, Integer.MIN_VALUE, Integer.MAX_VALUE}) {
            KIT.isThrown("clashCost first", IAE, () -> m.clashCost(wrong, 0));
            KIT.isThrown("clashCost second", IAE, () -> m.clashCost(0, wrong));
        }
        KIT.is("planning is no change", m.undo(), 0);
    }

    private static void coverValue() {
        KIT.is("one more helps", TestKit.loaded("row 5 6; trader 0 front 1 limit 9 cover;").coverValue(), 6);
        KIT.is("one more is not enough", TestKit.loaded("row 5 6; trader 0 front 2 limit 99 cover;").coverValue(), 0);
        KIT.is("one more is enough", TestKit.loaded("row 5 6; covers 1; trader 0 front 2 limit 99 cover;").coverValue(), 11);
        KIT.is("one more is not needed", TestKit.loaded("row 5 6; covers 2; trader 0 front 2 limit 99 cover;").coverValue(), 0);
        StreetMarket m = TestKit.loaded("row 5 5 5 5 5; covers 4; trader 0 front 3 limit 99 cover; trader 0 front 2 limit 99 cover;");
        KIT.is("a fifth one", m.coverValue(), 10);
        KIT.is("covers stay", m.setCovers(4), 4);
        KIT.is("nobody needs cover", TestKit.loaded("row 5; trader 0 front 1 limit 9;").coverValue(), 0);
    }

    private static void contribution() {
        StreetMarket m = TestKit.loaded("row 9 5; trader 0 front 1 limit 9; trader 0 front 1 limit 9; trader 0 front 1 limit 5; trader 0 front 2 limit 9;");
        KIT.is("one of two equals", m.contribution(0), 0);
        KIT.is("the other", m.contribution(1), 0);
        KIT.is("the third", m.contribution(2), 0);
        KIT.is("one who cannot come", m.contribution(3), 0);
        StreetMarket n = TestKit.loaded("row 9 5 3; trader 0 front 1 limit 9; trader 0 front 2 limit 9;");
        KIT.is("shares", n.contribution(0) + " " + n.contribution(1), "9 8");
        for (int wrong : NO_INDEX) {
            KIT.isThrown("contribution", IOOBE, () -> m.contribution(wrong));
        }
        KIT.isThrown("contribution of 4", IOOBE, () -> m.contribution(4));
    }

    private static int rentFor(String text, int pitch) {
        return TestKit.loaded(text).bestRent(pitch);
    }

    private static void bestRent() {
        KIT.is("nobody comes", rentFor("row 50 50;", 0), 1);
        KIT.is("up to the limit", rentFor("row 50 50; trader 0 front 1 limit 70;", 0), 70);
        KIT.is("up to 999", rentFor("row 50; trader 0 front 1 limit 9999;", 0), 999);
        KIT.is("the present rent is the best one", rentFor("row 70 50; trader 0 front 1 limit 70;", 0), 70);
        KIT.is("rows part a clash on the right", rentFor("row 5; row 20; clash 0 1; trader 0 front 1 limit 20; trader 1 front 1 limit 19;", 0), 19);
        KIT.is("rows part a clash on the left", rentFor("row 20; row 5; clash 0 1; trader 0 front 1 limit 20; trader 1 front 1 limit 19;", 1), 19);
        KIT.is("1 for a block, before 30 for one pitch", rentFor("row 50 60; trader 0 front 2 limit 51; trader 0 front 1 limit 30;", 1), 1);
        KIT.is("the limit of the whole block", rentFor("row 50 60; trader 0 front 2 limit 200;", 1), 150);
        KIT.is("a block that cannot be paid anyway", rentFor("row 50 60; trader 0 front 2 limit 50;", 1), 1);
        KIT.is("just 1 is left", rentFor("row 50 60; trader 0 front 2 limit 51;", 1), 1);
        KIT.is("just 2 are left", rentFor("row 50 60; trader 0 front 2 limit 52;", 1), 2);
        KIT.is("not better than elsewhere", rentFor("row 50 60; trader 0 front 1 limit 60;", 0), 1);
        KIT.is("the same income elsewhere: the lowest", rentFor("row 50 60 60; trader 0 front 1 limit 60;", 0), 1);
        KIT.is("two limits, one pitch", rentFor("row 5; trader 0 front 1 limit 30; trader 0 front 1 limit 40;", 0), 40);
        KIT.is("equal incomes at two rents: the lower one",
            rentFor("row 5 31; clash 1 2; trader 0 front 1 limit 30; trader 1 front 1 limit 61; trader 2 front 1 limit 31;", 0), 30);
        KIT.is("no cover, no rent", rentFor("row 5; trader 0 front 1 limit 30 cover;", 0), 1);
        KIT.is("with a cover", rentFor("row 5; covers 1; trader 0 front 1 limit 30 cover;", 0), 30);
        KIT.is("only one may stand", rentFor("row 5 20; clash 0 1; trader 0 front 1 limit 20; trader 1 front 1 limit 19;", 0), 1);
        StreetMarket m = TestKit.loaded("row 5 5 5; trader 0 front 2 limit 99;");
        m.place(0, 1);
        String before = TestKit.state(m);
        KIT.is("bestRent", m.bestRent(1), 94);
        KIT.is("nothing changes", TestKit.state(m), before);
        for (int wrong : NO_INDEX) {
            KIT.isThrown("bestRent", IOOBE, () -> m.bestRent(wrong));
        }
        KIT.isThrown("bestRent of 3", IOOBE, () -> m.bestRent(3));
    }

    private static String randomMarket(Random random) {
        StringBuilder text = new StringBuilder("covers " + random.nextInt(5) + ";");
        int rows = 1 + random.nextInt(4);
        for (int row = 0; row < rows; row++) {
            text.append("row");
            for (int n = 1 + random.nextInt(24 / rows > 12 ? 12 : 24 / rows); n > 0; n--) {
                text.append(' ').append(1 + random.nextInt(60)).append(random.nextInt(3) == 0 ? "roof" : "");
            }
            text.append(';');
        }
        for (int t = random.nextInt(9); t > 0; t--) {
            text.append("trader " + random.nextInt(8) + "front" + (1 + random.nextInt(3)) + "limit" + (1 + random.nextInt(200))
                + (random.nextInt(3) == 0 ? "cover;" : ";"));
        }
        for (int n = random.nextInt(9); n > 0; n--) {
            text.append("clash " + random.nextInt(8) + ' ' + random.nextInt(8) + ';');
        }
        return text.toString();
    }

    /** The random runs know bestIncome for all markets, bestRent only for small ones: here it is asked of bestIncome. */
    private static void bestRentByTryingAll() {
        Random random = new Random(4711);
        for (int i = 0; i < 40; i++) {
            StreetMarket m = TestKit.loaded(randomMarket(random));
            int pitch = random.nextInt(m.pitchCount());
            int answer = m.bestRent(pitch);
            int most = -1;
            int due = 0;
            for (int rent = 1; rent <= 999; rent++) {
                m.setRent(pitch, rent);
                if (m.bestIncome() > most) {
                    most = m.bestIncome();
                    due = rent;
                }
            }
            KIT.is("bestRent of market " + i, answer, due);
        }
    }

    private static void firstCome() {
        StreetMarket m = TestKit.loaded("row 9 5 7; clash 1 2; trader 0 front 1 limit 9; trader 1 front 2 limit 14; trader 2 front 1 limit 8; trader 2 front 1 limit 4;");
        m.place(0, 2);
        KIT.is("nobody", m.firstCome(0L), 0);
        KIT.is("one", m.firstCome(1L), 9);
        KIT.is("the other", m.firstCome(2L), 14);
        KIT.is("1 then 2", m.firstCome(12L), 21);
        KIT.is("2 then 1", m.firstCome(21L), 21);
        KIT.is("3 takes 7, so 2 cannot come", m.firstCome(32L), 7);
        KIT.is("2 takes the left, beside it 3 clashes", m.firstCome(23L), 14);
        KIT.is("1, 3, and 2 finds no room", m.firstCome(132L), 16);
        KIT.is("one who cannot come", m.firstCome(4L), 0);
        KIT.is("and the next can", m.firstCome(41L), 9);
        KIT.is("the present placement stays", TestKit.placement(m), "..0");
        StreetMarket ties = TestKit.loaded("row 5 6 5 7; clash 0 0; trader 0 front 1 limit 5; trader 0 front 1 limit 7;");
        KIT.is("equal rents: the lowest pitch, so the next one has the last pitch", ties.firstCome(12L), 12);
        StreetMarket covers = TestKit.loaded("row 5 6; covers 1; trader 0 front 1 limit 9 cover; trader 0 front 1 limit 9 cover; trader 0 front 1 limit 9;");
        KIT.is("the cover goes to who comes first", covers.firstCome(123L), 11);
        StreetMarket eight = TestKit.loaded("row 1 2 3 4 5 6 7 8; trader 0 front 1 limit 9;trader 0 front 1 limit 9;trader 0 front 1 limit 9;"
            + "trader 0 front 1 limit 9;trader 0 front 1 limit 9;trader 0 front 1 limit 9;trader 0 front 1 limit 9;trader 0 front 1 limit 9;");
        KIT.is("all eight", eight.firstCome(87654321L), 36);
        for (long wrong : new long[] {-1L, Long.MIN_VALUE, 5L, 10L, 101L, 11L, 121L, 1234567891L, Long.MAX_VALUE, 4294967297L, 1000000000000000000L}) {
            KIT.isThrown("firstCome " + wrong, IAE, () -> m.firstCome(wrong));
        }
        KIT.isThrown("a ninth", IAE, () -> eight.firstCome(9L));
        KIT.isThrown("nine digits", IAE, () -> eight.firstCome(876543211L));
    }

    private static void insertion() {
        StreetMarket m = TestKit.loaded("row 1 2 3 4 5; trader 0 front 1 limit 9; trader 0 front 1 limit 9; trader 0 front 3 limit 99; trader 0 front 2 limit 99;");
        m.place(0, 1);
        m.place(1, 3);
        KIT.is("no room without moves", m.insertionIncome(2, 0), -1);
        KIT.is("one move", m.insertionIncome(2, 1), 15);
        KIT.is("two moves", m.insertionIncome(2, 2), 15);
        KIT.isThrown("insert without room", ISE, () -> m.insert(2, 0));
        KIT.is("insert", m.insert(2, 2), 1);
        KIT.is("of two ways with one move the first", TestKit.placement(m), "10222");
        KIT.is("no room at all", m.insertionIncome(3, 2), -1);
        KIT.isThrown("no insertion at all", ISE, () -> m.insert(3, 2));
        KIT.is("insert is a change", m.undo() + " " + TestKit.placement(m), "3 .0.1.");
        StreetMarket n = TestKit.loaded("row 1 2 9; trader 0 front 1 limit 9; trader 1 front 1 limit 1; trader 2 front 1 limit 2;");
        n.place(0, 0);
        KIT.is("0 stays", n.insertionIncome(1, 0), -1);
        KIT.is("0 moves for the newcomer, where it pays most", n.insertionIncome(1, 1), 10);
        KIT.is("moves may raise the income, though there is room", n.insertionIncome(2, 1), 11);
        KIT.is("without moves", n.insertionIncome(2, 0), 3);
        KIT.is("asking changes nothing", TestKit.placement(n) + n.undo(), "0..1");
        StreetMarket three = TestKit.loaded("row 5 5 5 5 5 5; trader 0 front 1 limit 9; trader 0 front 1 limit 9; trader 0 front 1 limit 9; trader 0 front 3 limit 99;");
        three.place(0, 1);
        three.place(1, 3);
        three.place(2, 4);
        KIT.is("one move is enough", three.insertionIncome(3, 1), 30);
        three.remove(0);
        three.place(0, 2);
        KIT.is("two in the way, on one side of 3", three.insert(3, 2) + " " + TestKit.placement(three), "1 333120");
    }

    private static void insertionTies() {
        StreetMarket m = TestKit.loaded("row 5 5 5 5; trader 0 front 1 limit 9; trader 0 front 1 limit 9;");
        m.place(0, 1);
        KIT.is("equal incomes: nobody moves, then the first placement", m.insert(1, 2) + " " + TestKit.placement(m), "0 10..");
        StreetMarket n = TestKit.loaded("row 5 5 5 5; trader 0 front 1 limit 9; trader 0 front 3 limit 99;");
        n.place(0, 1);
        KIT.is("one must move: the first placement", n.insert(1, 2) + " " + TestKit.placement(n), "1 0111");
        StreetMarket p = TestKit.loaded("row 5 5 5 5; trader 0 front 3 limit 99; trader 0 front 1 limit 9; clash 0 1; trader 1 front 1 limit 5;");
        p.place(1, 1);
        KIT.is("a lower newcomer comes first", p.insert(0, 1) + " " + TestKit.placement(p), "1 0001");
        StreetMarket c = TestKit.loaded("row 5 5 5; clash 0 1; trader 0 front 1 limit 9; trader 1 front 1 limit 9;");
        c.place(0, 1);
        KIT.is("a clash forces a move", c.insertionIncome(1, 0) + " " + c.insert(1, 1) + " " + TestKit.placement(c), "-1 1 0.1");
        StreetMarket v = TestKit.loaded("row 5 5roof; covers 0; trader 0 front 1 limit 9; trader 1 front 1 limit 9 cover;");
        v.place(0, 1);
        KIT.is("the roof forces a move", v.insertionIncome(1, 0) + " " + v.insert(1, 1) + " " + TestKit.placement(v), "-1 1 01");
    }

    private static void insertionWrongInputs() {
        StreetMarket m = TestKit.loaded("row 5 5 5; trader 0 front 1 limit 9; trader 0 front 1 limit 9;");
        m.place(0, 0);
        String before = TestKit.state(m);
        for (int wrong : new int[] {-1, 2, 8, Integer.MIN_VALUE, Integer.MAX_VALUE}) {
            KIT.isThrown("insertionIncome trader", IOOBE, () -> m.insertionIncome(wrong, 3));
            KIT.isThrown("insert trader", IOOBE, () -> m.insert(wrong, 3));
        }
        for (int wrong : new int[] {-1, 3, Integer.MIN_VALUE, Integer.MAX_VALUE}) {
            KIT.isThrown("insertionIncome moves", IAE, () -> m.insertionIncome(0, wrong));
            KIT.isThrown("insert moves", IAE, () -> m.insert(0, wrong));
            KIT.isThrown("insert moves, not placed", IAE, () -> m.insert(1, wrong));
        }
        KIT.isThrown("insertionIncome of one who is placed", ISE, () -> m.insertionIncome(0, 1));
        KIT.isThrown("insert of one who is placed", ISE, () -> m.insert(0, 1));
        KIT.is("throws change nothing", TestKit.state(m), before);
        KIT.is("load and place", m.undo(), 1);
    }
}
