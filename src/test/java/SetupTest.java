/** Promises 1 to 4: a new object, append, load, errorPosition. */
public final class SetupTest {
    private static final Class<IllegalArgumentException> IAE = IllegalArgumentException.class;
    private static final Class<IllegalStateException> ISE = IllegalStateException.class;
    private static final Class<IndexOutOfBoundsException> IOOBE = IndexOutOfBoundsException.class;
    private static final TestKit KIT = new TestKit();

    public static void main(String[] args) {
        newObject();
        append();
        loadTakesBytesInOrder();
        loadReplacesOrKeeps();
        goodTexts();
        syntaxErrors();
        valueErrors();
        tooMany();
        severalCodesAtOnePlace();
        errorPosition();
        KIT.end("SetupTest");
    }

    private static void newObject() {
        StreetMarket m = new StreetMarket();
        KIT.is("new pitchCount", m.pitchCount(), 0);
        KIT.is("new traderCount", m.traderCount(), 0);
        KIT.is("new errorPosition", m.errorPosition(), -1);
        KIT.is("new coversUsed", m.coversUsed(), 0);
        KIT.is("new income", m.income(), 0);
        KIT.is("new bestIncome", m.bestIncome(), 0);
        KIT.is("new coverValue", m.coverValue(), 0);
        for (int i = 0; i < 64; i++) {
            KIT.is("new clash", m.clash(i / 8, i % 8), false);
        }
        KIT.isThrown("new row", IOOBE, () -> m.row(0));
        KIT.isThrown("new trade", IOOBE, () -> m.trade(0));
        KIT.isThrown("new undo", ISE, m::undo);
        KIT.isThrown("new load(1), the buffer being empty", IAE, () -> m.load(1));
        KIT.is("new setCovers", m.setCovers(4), 0);
    }

    private static void append() {
        StreetMarket m = new StreetMarket();
        for (int i = 1; i <= 30; i++) {
            KIT.is("append " + i, m.append(0x20202020, 0x20202020, 0x20202020, 0x20202020, 0x20202020), 20 * i);
        }
        KIT.isThrown("append beyond 600", ISE, () -> m.append(0, 0, 0, 0, 0));
        KIT.is("600 spaces are kept", m.load(600), 0);
        KIT.is("append after load", m.append(-1, -1, -1, -1, -1), 20);
        KIT.is("byte 255", m.load(20), -2);
        KIT.is("byte 255 is at 0", m.errorPosition(), 0);
    }

    private static void loadTakesBytesInOrder() {
        StreetMarket m = new StreetMarket();
        // "row 12 34roof 5 67 ;" and junk that lies behind the length
        m.append(0x726f7720, 0x31322033, 0x34726f6f, 0x66203520, 0x3637203b);
        m.append(0x41414141, -1, -1, -1, -1);
        KIT.is("load(20)", m.load(20), 1);
        KIT.is("pitches", m.pitchCount(), 4);
        KIT.is("rents", m.rent(0) + " " + m.rent(1) + " " + m.rent(2) + " " + m.rent(3), "12 34 5 67");
        KIT.is("roofs", m.isRoofed(0) + " " + m.isRoofed(1) + " " + m.isRoofed(2), "false true false");
        KIT.isThrown("the buffer is empty after load", IAE, () -> m.load(1));
    }

    private static void loadReplacesOrKeeps() {
        StreetMarket m = TestKit.loaded("row 5 6; row 7; trader 3 front 1 limit 9; clash 1 2; clash 0 0; covers 2;");
        m.place(0, 1);
        String before = TestKit.state(m);
        m.append(0x726f7720, 0, 0, 0, 0);
        KIT.isThrown("load(-1)", IAE, () -> m.load(-1));
        KIT.isThrown("load(21)", IAE, () -> m.load(21));
        KIT.isThrown("load(max)", IAE, () -> m.load(Integer.MAX_VALUE));
        KIT.is("a throwing load changes nothing", TestKit.state(m), before);
        KIT.is("the buffer stays at a throw", m.append(0, 0, 0, 0, 0), 40);
        KIT.is("load with an error", m.load(40), -2);
        KIT.is("error after row", m.errorPosition(), 4);
        KIT.is("the buffer is empty after an error", m.append(0x20202020, 0x20202020, 0x20202020, 0x20202020, 0x20202020), 20);
        KIT.is("the market stays at an error", m.rent(2) + " " + m.start(0) + " " + m.clash(2, 1), "7 1 true");
        KIT.is("spaces only", m.load(20), 0);
        KIT.is("an empty market", m.pitchCount() + m.traderCount() + m.setCovers(0), 0);
        KIT.is("no clashes", m.clash(1, 2) || m.clash(0, 0), false);
        StreetMarket n = TestKit.loaded("row 1 1; trader 0 front 1 limit 1;");
        n.place(0, 0);
        TestKit.load(n, "row 1 1; trader 0 front 1 limit 1;");
        KIT.is("nobody is placed after load", n.start(0) + TestKit.placement(n), "-1..");
    }

    private static void good(String text, int statements) {
        StreetMarket m = new StreetMarket();
        KIT.is("load of '" + text + "'", TestKit.load(m, text), statements);
        KIT.is("errorPosition of '" + text + "'", m.errorPosition(), -1);
    }

    private static void goodTexts() {
        good("", 0);
        good("      ", 0);
        good("row1;", 1);
        good("  row  999  roof  1roof2 ;  ", 1);
        good("trader7front3limit9999cover;", 1);
        good("trader 0 front 1 limit 1;", 1);
        good("clash 0 0;clash 7 7;clash 0 7;clash 7 0;clash 0 7;", 5);
        good("covers 0;covers 4;covers 2;", 3);
        good("row 001 0000000000000000000000999; trader 0007 front 03 limit 0009999;", 2);
        good("row 1 1 1 1 1 1 1 1 1 1 1 1;row 1 1 1 1 1 1 1 1 1 1 1 1;", 2);
        good("row 1;row 1;row 1;row 1;", 4);
        StringBuilder full = new StringBuilder("covers 3;");
        while (full.length() < 600) {
            full.append(full.length() + 8 <= 600 ? "covers1;" : " ");
        }
        good(full.toString(), 74);
        StreetMarket m = TestKit.loaded("covers 3; trader 2 front 3 limit 40 cover; row 5 roof 6; row 7; clash 4 2; covers 1;");
        KIT.is("the last covers counts", m.setCovers(0), 1);
        KIT.is("rows", m.row(0) + " " + m.row(1) + " " + m.row(2), "0 0 1");
        KIT.is("trader", m.trade(0) + " " + m.frontage(0), "2 3");
        KIT.is("clash both ways", m.clash(4, 2) && m.clash(2, 4) && !m.clash(4, 4), true);
        StreetMarket n = TestKit.loaded("row 5 5 5; trader 0 front 3 limit 14; trader 0 front 3 limit 15 cover;");
        KIT.is("the limit is read", n.obstacle(0, 0), 4);
        KIT.is("cover is read", n.obstacle(1, 0), 5);
    }

    private static void bad(String text, int code, int at) {
        StreetMarket m = new StreetMarket();
        KIT.is("load of '" + text + "'", TestKit.load(m, text), code);
        KIT.is("errorPosition of '" + text + "'", m.errorPosition(), at);
        KIT.isThrown("no change by '" + text + "'", ISE, m::undo);
    }

    /** The text ends before bytes that would go on with it: a syntax error. */
    private static void cut(String text, int length, int at) {
        StreetMarket m = new StreetMarket();
        int[] w = TestKit.five(TestKit.bytes(text), 0);
        m.append(w[0], w[1], w[2], w[3], w[4]);
        KIT.is("load(" + length + ") of '" + text + "'", m.load(length), -2);
        KIT.is("errorPosition of load(" + length + ") of '" + text + "'", m.errorPosition(), at);
    }

    private static void syntaxErrors() {
        bad("row", -2, 3);
        bad("row   ", -2, 6);
        bad("row;", -2, 3);
        bad("row 5", -2, 5);
        bad("row 5  ", -2, 7);
        bad("row 5 roof", -2, 10);
        bad("row roof 5;", -2, 4);
        bad("row 5 roof roof;", -2, 11);
        bad("row 5 cover;", -2, 6);
        bad("row 5 roofs;", -2, 6);
        bad("row 5 roo;", -2, 6);
        bad("row 5 roofa;", -2, 6);
        bad("row 5 roofz;", -2, 6);
        cut("row 5 roofs;", 10, 10);
        cut("row 5;", 2, 0);
        cut("row5;", 3, 3);
        cut("row 5;", 5, 5);
        cut("covers 44;", 8, 8);
        cut("covers 4;", 8, 8);
        bad("rows 5;", -2, 0);
        bad("ro 5;", -2, 0);
        bad("roW 5;", -2, 0);
        bad("  Row 5;", -2, 2);
        bad("row 5;;", -2, 6);
        bad(";", -2, 0);
        bad("5;", -2, 0);
        bad("row -5;", -2, 4);
        bad("row 5,6;", -2, 5);
        bad("row 5\t;", -2, 5);
        bad("row 5\n6;", -2, 5);
        bad("row 5 \u00e9;", -2, 6);
        bad("row 5; x", -2, 7);
        bad("traders 1 front 1 limit 1;", -2, 0);
        bad("trader front 1 limit 1;", -2, 7);
        bad("trader 1 limit 1;", -2, 9);
        bad("trader 1 front limit 1;", -2, 15);
        bad("trader 1 front 1 cover;", -2, 17);
        bad("trader 1 front 1 limit;", -2, 22);
        bad("trader 1 front 1 limit 5 covers;", -2, 25);
        bad("trader 1 front 1 limit 5 cover cover;", -2, 31);
        bad("trader 1 front 1 limit 5 6;", -2, 25);
        bad("trader 1 fronts 1 limit 5;", -2, 9);
        bad("trader", -2, 6);
        bad("trader 1 front 1 limit 5", -2, 24);
        bad("clash 1;", -2, 7);
        bad("clash;", -2, 5);
        bad("clash 1 2 3;", -2, 10);
        bad("clash 1,2;", -2, 7);
        bad("covers;", -2, 6);
        bad("cover 1;", -2, 0);
        bad("covers 1 2;", -2, 9);
        bad("covers 1", -2, 8);
        bad("`;", -2, 0);
        bad("{", -2, 0);
        bad("row 1/;", -2, 5);
        bad("row 1:;", -2, 5);
    }

    private static void valueErrors() {
        bad("row 0;", -3, 4);
        bad("row 1000;", -3, 4);
        bad("row 5 1 000;", -3, 8);
        bad("row 5 4294967297;", -3, 6);
        bad("row 18446744073709551617;", -3, 4);
        bad("row 0", -3, 4);
        bad("row 0x", -3, 4);
        bad("trader 8 front 1 limit 1;", -3, 7);
        bad("trader 1 front 0 limit 1;", -3, 15);
        bad("trader 1 front 4 limit 1;", -3, 15);
        bad("trader 1 front 1 limit 0;", -3, 23);
        bad("trader 1 front 1 limit 10000;", -3, 23);
        bad("clash 8 1;", -3, 6);
        bad("clash 1 8;", -3, 8);
        bad("clash 12;", -3, 6);
        bad("covers 5;", -3, 7);
        bad("covers 99999999999999999999999999;", -3, 7);
    }

    private static void tooMany() {
        bad("row 1;row 1;row 1;row 1; row 1;", -4, 25);
        bad("row 1;row 1;row 1;row 1;row", -4, 24);
        bad("row 1 1 1 1 1 1 1 1 1 1 1 1 5;", -4, 28);
        bad("row 1 1 1 1 1 1 1 1 1 1 1 1roof 5", -4, 32);
        bad("row 1 1 1 1 1 1 1 1 1 1 1 1;row 1 1 1 1 1 1 1 1 1 1 1 1;row 77;", -4, 60);
        bad("row 1 1 1 1 1 1 1 1 1 1 1;row 1 1 1 1 1 1 1 1 1 1 1;row 1 1 77;", -4, 60);
        StringBuilder eight = new StringBuilder();
        for (int i = 0; i < 8; i++) {
            eight.append("trader 1 front 1 limit 1;");
        }
        good(eight.toString(), 8);
        bad(eight + " trader", -4, 201);
        bad(eight + "trader 9 front 1 limit 1;", -4, 200);
        bad(eight + "traders 1 front 1 limit 1;", -2, 200);
    }

    private static void severalCodesAtOnePlace() {
        bad("row 1 1 1 1 1 1 1 1 1 1 1 1 1000;", -3, 28);
        bad("row 1 1 1 1 1 1 1 1 1 1 1 1;row 1 1 1 1 1 1 1 1 1 1 1 1;row 0;", -3, 60);
        bad("row 1 1 1 1 1 1 1 1 1 1 1 1;row 1 1 1 1 1 1 1 1 1 1 1 1;row;", -2, 59);
        bad("row 1;row 1;row 1;row 1;rows 1;", -2, 24);
    }

    private static void errorPosition() {
        StreetMarket m = new StreetMarket();
        KIT.isThrown("a load that throws", IAE, () -> m.load(3));
        KIT.is("errorPosition after only a throw", m.errorPosition(), -1);
        TestKit.load(m, "row 5; row x;");
        KIT.is("errorPosition after an error", m.errorPosition(), 11);
        KIT.isThrown("another load that throws", IAE, () -> m.load(3));
        KIT.is("errorPosition stays at a throw", m.errorPosition(), 11);
        m.append(0, 0, 0, 0, 0);
        KIT.is("errorPosition stays at append", m.errorPosition(), 11);
        m.load(0);
        KIT.is("errorPosition after no error", m.errorPosition(), -1);
    }
}
