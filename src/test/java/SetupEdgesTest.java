/** The boundary cases of section 5 (setup text) and of promises 1 to 4, sentence by sentence. */
public final class SetupEdgesTest {
    private static final Class<IllegalArgumentException> IAE = IllegalArgumentException.class;
    private static final Class<IllegalStateException> ISE = IllegalStateException.class;
    private static final Class<IndexOutOfBoundsException> IOOBE = IndexOutOfBoundsException.class;
    private static final int SYNTAX = -2;
    private static final int VALUE = -3;
    private static final int MANY = -4;
    private static final int BLANK = 0x20202020;
    private static final String TWELVE = "row 1 1 1 1 1 1 1 1 1 1 1 1;";
    private static final String TRADER = "trader 0 front 1 limit 1;";
    private static final TestKit KIT = new TestKit();

    public static void main(String[] args) {
        longestText();
        repetitions();
        optionalParts();
        words();
        numbers();
        spaces();
        rowStatement();
        traderStatement();
        clashStatement();
        coversStatement();
        firstErrorStops();
        firstCodeOfTheList();
        wrongTokens();
        wrongBytes();
        endOfText();
        valueErrors();
        tooManyRows();
        tooManyTraders();
        tooManyPitches();
        constants();
        newObject();
        append();
        appendBeyondTheBuffer();
        loadOfTheFirstBytes();
        loadReplaces();
        loadKeeps();
        loadEmptiesTheBuffer();
        loadOutOfRange();
        errorPosition();
        KIT.end("SetupEdgesTest");
    }

    private static String times(int count, String part) {
        return part.repeat(count);
    }

    /** A text without an error: its statements are counted, and it is a change. */
    private static StreetMarket good(String text, int statements) {
        StreetMarket m = new StreetMarket();
        KIT.is("load of '" + text + "'", TestKit.load(m, text), statements);
        KIT.is("errorPosition of '" + text + "'", m.errorPosition(), -1);
        return m;
    }

    /** A text with an error: its code and its position, and it is no change. */
    private static void bad(String text, int code, int at) {
        StreetMarket m = new StreetMarket();
        KIT.is("load of '" + text + "'", TestKit.load(m, text), code);
        KIT.is("errorPosition of '" + text + "'", m.errorPosition(), at);
        KIT.isThrown("undo of '" + text + "'", ISE, m::undo);
    }

    // ---- section 5

    private static void longestText() {
        KIT.says("A market is read from a text of at most 600 bytes");
        good("", 0);
        good(times(75, "covers0;"), 75);
        good(times(66, "clash0 0;") + "row 1;", 67);
        good(times(600, " "), 0);
        KIT.is("covers of 592 digits", good("covers " + times(591, "0") + "3;", 1).setCovers(0), 3);
        KIT.is("covers behind 592 spaces", good(times(592, " ") + "covers3;", 1).setCovers(0), 3);
        bad(times(599, " ") + ";", SYNTAX, 599);
        bad(times(599, " ") + "5", SYNTAX, 599);
        bad(times(594, " ") + "covers", SYNTAX, 600);
        bad(times(593, " ") + "covers5", VALUE, 599);
        bad(times(593, " ") + "covers4", SYNTAX, 600);
        bad(times(600, "r"), SYNTAX, 0);
        bad(times(600, "9"), SYNTAX, 0);
        bad("row " + times(596, "9"), VALUE, 4);
        bad("row " + times(596, "0"), VALUE, 4);
        bad("row " + times(595, "0") + "1", SYNTAX, 600);
    }

    private static void repetitions() {
        KIT.says("Braces mean any number of repetitions");
        good("", 0);
        good("covers1;", 1);
        good("covers1;covers2;", 2);
        KIT.is("no more than one pitch", good("row 7;", 1).pitchCount(), 1);
        KIT.is("eleven more pitches", good(TWELVE, 1).pitchCount(), 12);
        bad("row;", SYNTAX, 3);
        bad(";", SYNTAX, 0);
        bad("covers1;;", SYNTAX, 8);
    }

    private static void optionalParts() {
        KIT.says("square brackets mean an optional part");
        StreetMarket m = good("row 1 2 roof 3; trader 0 front 1 limit 9; trader 0 front 1 limit 9 cover;", 3);
        KIT.is("roofs", m.isRoofed(0) + " " + m.isRoofed(1) + " " + m.isRoofed(2), "false true false");
        KIT.is("needs", m.obstacle(0, 0) + " " + m.obstacle(1, 0) + " " + m.obstacle(1, 1), "0 5 0");
        bad("row 1 roof roof;", SYNTAX, 11);
        bad("row roof;", SYNTAX, 4);
        bad("trader 0 front 1 limit 9 cover cover;", SYNTAX, 31);
        bad("trader 0 front 1 cover limit 9;", SYNTAX, 17);
    }

    private static void words() {
        KIT.says("A word is the longest possible sequence of the letters a to z.");
        good("row1roof2roof;", 1);
        good("trader0front1limit1cover;clash0 0;covers0;", 3);
        bad("rowroof 1;", SYNTAX, 0);
        bad("row 1 roofcover;", SYNTAX, 6);
        bad("row 1 roo f;", SYNTAX, 6);
        bad("ro w 1;", SYNTAX, 0);
        bad("arow 1;", SYNTAX, 0);
        bad("rowa 1;", SYNTAX, 0);
        bad("rowz 1;", SYNTAX, 0);
        bad("row 1 roofa;", SYNTAX, 6);
        bad("row 1 roofz;", SYNTAX, 6);
        bad("trader 0 front 1 limit 1 covers;", SYNTAX, 25);
        bad("trader 0 front 1 limit 1 cove;", SYNTAX, 25);
        bad("trader 0 frontlimit 1;", SYNTAX, 9);
        bad("cover 0;", SYNTAX, 0);
        bad("coverss 0;", SYNTAX, 0);
        bad("Row 1;", SYNTAX, 0);
        bad("roW 1;", SYNTAX, 0);
        bad("ROW 1;", SYNTAX, 0);
    }

    private static void numbers() {
        KIT.says("N is a number, the longest possible sequence of digits.");
        StreetMarket m = good("row 12 1 2 0003;", 1);
        KIT.is("rents", m.rent(0) + " " + m.rent(1) + " " + m.rent(2) + " " + m.rent(3), "12 1 2 3");
        bad("clash 12;", VALUE, 6);
        bad("clash 01;", SYNTAX, 8);
        good("clash 01 07;", 1);
        bad("row 1 000;", VALUE, 6);
        // 2^31, 2^32 and 2^64, each with 5 more: a number that wraps around would be 5, or in range at least.
        bad("row 2147483653;", VALUE, 4);
        bad("row 4294967301;", VALUE, 4);
        bad("row 18446744073709551621;", VALUE, 4);
        bad("row -5;", SYNTAX, 4);
        bad("row +5;", SYNTAX, 4);
        bad("row 5.0;", SYNTAX, 5);
    }

    private static void spaces() {
        KIT.says("Spaces (byte 32) may stand in front of every token and at the end of the text.");
        StreetMarket m = good("  row  5  roof  6  ;  trader  1  front  2  limit  11  cover  ;  clash  1  2  ;  covers  3  ;  ", 4);
        KIT.is("all is read", m.rent(1) + " " + m.isRoofed(0) + " " + m.clash(2, 1) + " " + m.obstacle(0, 0) + " " + m.setCovers(0),
            "6 true true 0 3");
        good("   ", 0);
        good("row5roof 6;trader1front2limit11cover;clash1 2;covers3;", 4);
        bad("r ow 5;", SYNTAX, 0);
        bad("row 5 ;x", SYNTAX, 7);
        bad("covers 1 0;", SYNTAX, 9);
        for (int blank : new int[] {0, 9, 10, 11, 12, 13, 31, 33, 160}) {
            bad("row" + (char) blank + "5;", SYNTAX, 3);
            bad((char) blank + "row 5;", SYNTAX, 0);
            bad("row 5;" + (char) blank, SYNTAX, 6);
        }
    }

    private static void rowStatement() {
        KIT.says("\"row\" adds a row; the numbers are the rents of its pitches, and a pitch with \"roof\" is roofed.");
        StreetMarket m = good("row 1; covers 0; row 999roof 2; row 3 roof; row 4;", 5);
        int[] rows = {0, 1, 1, 2, 3};
        int[] rents = {1, 999, 2, 3, 4};
        for (int p = 0; p < 5; p++) {
            KIT.is("pitch " + p, m.row(p) + " " + m.rent(p) + " " + m.isRoofed(p), rows[p] + " " + rents[p] + " " + (p == 1 || p == 3));
        }
        KIT.is("no row", good("covers 1;", 1).pitchCount(), 0);
    }

    private static void traderStatement() {
        KIT.says("\"trader\" adds a trader; the numbers are its trade, its frontage and its limit.");
        StreetMarket m = good("trader 0 front 1 limit 1; row 1 2 997; trader 7 front 3 limit 999; trader 3 front 3 limit 1000;", 4);
        KIT.is("traders", m.traderCount(), 3);
        KIT.is("the first", m.trade(0) + " " + m.frontage(0) + " " + m.obstacle(0, 0) + " " + m.obstacle(0, 1), "0 1 0 4");
        KIT.is("the second", m.trade(1) + " " + m.frontage(1) + " " + m.obstacle(1, 0), "7 3 4");
        KIT.is("the third", m.trade(2) + " " + m.frontage(2) + " " + m.obstacle(2, 0), "3 3 0");
        StreetMarket rich = good("row 999 999 999; trader 1 front 3 limit 9999;", 2);
        KIT.is("the greatest limit pays the greatest rent", rich.place(0, 0), 2997);
    }

    private static void clashStatement() {
        KIT.says("\"clash\" says that two trades, which may be equal, clash; it may be said repeatedly.");
        StreetMarket m = good("clash 0 7; clash 7 0; clash 0 7; clash 3 3; clash 3 3;", 5);
        for (int i = 0; i < 64; i++) {
            boolean due = i == 7 || i == 56 || i == 27;
            KIT.is("clash " + i / 8 + " " + i % 8, m.clash(i / 8, i % 8), due);
        }
    }

    private static void coversStatement() {
        KIT.says("\"covers\" sets the number of movable covers, which is 0 without such a statement; the last one counts.");
        KIT.is("without", good("row 1;", 1).setCovers(0), 0);
        KIT.is("empty text", good("", 0).setCovers(0), 0);
        KIT.is("0", good("covers 0;", 1).setCovers(0), 0);
        KIT.is("4", good("covers 4;", 1).setCovers(0), 4);
        KIT.is("the last, smaller", good("covers 4; covers 1;", 2).setCovers(0), 1);
        KIT.is("the last, larger", good("covers 1; row 1; covers 4;", 3).setCovers(0), 4);
        KIT.is("the last, none", good("covers 4; covers 0;", 2).setCovers(0), 0);
        StreetMarket m = good("covers 4;", 1);
        TestKit.load(m, "row 1;");
        KIT.is("a later text without", m.setCovers(0), 0);
    }

    private static void firstErrorStops() {
        KIT.says("Reading stops at the first error.");
        bad("row 0 1000; x", VALUE, 4);
        bad("x row 0;", SYNTAX, 0);
        bad("row 1 1 1 1 1 1 1 1 1 1 1 1 5 0;", MANY, 28);
        bad("row 1 1 1 1 1 1 1 1 1 1 1 0 5;", VALUE, 26);
        bad("covers 5 x", VALUE, 7);
        bad("covers x 5", SYNTAX, 7);
        bad("clash 8 9;", VALUE, 6);
        bad("clash 8;", VALUE, 6);
        bad("trader 8 front 4 limit 0;", VALUE, 7);
        bad("row 1;row 1;row 1;row 1;row 0;", MANY, 24);
        bad("row 1;row 1;row 1;row 0;row 1;", VALUE, 22);
    }

    private static void firstCodeOfTheList() {
        KIT.says("If several error codes fit the same position, the first one in this list is reported");
        bad("row 1 1 1 1 1 1 1 1 1 1 1 1 0;", VALUE, 28);
        bad("row 1 1 1 1 1 1 1 1 1 1 1 1 1000;", VALUE, 28);
        bad("row 1 1 1 1 1 1 1 1 1 1 1 1 999;", MANY, 28);
        bad(TWELVE + TWELVE + "row 0;", VALUE, 60);
        bad(TWELVE + TWELVE + "row 1000;", VALUE, 60);
        bad(TWELVE + TWELVE + "row 1;", MANY, 60);
        bad(TWELVE + TWELVE + "row roof;", SYNTAX, 60);
        bad("row 1;row 1;row 1;row 1;rows 0;", SYNTAX, 24);
        bad(times(8, TRADER) + "traders 9;", SYNTAX, 200);
    }

    private static void wrongTokens() {
        KIT.says("SYNTAX_ERROR: a byte or token that is not allowed here (at its first byte)");
        bad("5;", SYNTAX, 0);
        bad(" ;", SYNTAX, 1);
        bad("roof;", SYNTAX, 0);
        bad("front 1;", SYNTAX, 0);
        bad("row 5 front;", SYNTAX, 6);
        bad("row 5 row 6;", SYNTAX, 6);
        bad("row row;", SYNTAX, 4);
        bad("trader;", SYNTAX, 6);
        bad("trader 1;", SYNTAX, 8);
        bad("trader 1 2 front 1 limit 1;", SYNTAX, 9);
        bad("trader 1 front;", SYNTAX, 14);
        bad("trader 1 front 1;", SYNTAX, 16);
        bad("trader 1 front 1 2 limit 1;", SYNTAX, 17);
        bad("trader 1 limit 1 front 1;", SYNTAX, 9);
        bad("trader 1 front 1 limit;", SYNTAX, 22);
        bad("trader 1 front 1 limit 1 1;", SYNTAX, 25);
        bad("trader 1 front 1 limit 1 roof;", SYNTAX, 25);
        bad("trader cover 1;", SYNTAX, 7);
        bad("clash;", SYNTAX, 5);
        bad("clash 1;", SYNTAX, 7);
        bad("clash 1 2 3;", SYNTAX, 10);
        bad("clash 1 x;", SYNTAX, 8);
        bad("covers;", SYNTAX, 6);
        bad("covers 1 2;", SYNTAX, 9);
        bad("covers 1 covers 2;", SYNTAX, 9);
        bad("covers 1 row 2;", SYNTAX, 9);
    }

    /** Every byte that begins no token, at the beginning, behind a word, behind a number and behind a statement. */
    private static void wrongBytes() {
        KIT.says("SYNTAX_ERROR: a byte or token that is not allowed here (at its first byte)");
        for (int b = 0; b < 256; b++) {
            boolean isToken = b == ' ' || b == ';' || b >= '0' && b <= '9' || b >= 'a' && b <= 'z';
            if (!isToken) {
                bad((char) b + "", SYNTAX, 0);
                bad("row" + (char) b + "1;", SYNTAX, 3);
                bad("row 1" + (char) b + ";", SYNTAX, 5);
                bad("row 1roof" + (char) b + ";", SYNTAX, 9);
                bad("row 1; " + (char) b, SYNTAX, 7);
            }
        }
    }

    private static void endOfText() {
        KIT.says("or an unexpected end of the text (at the length of the text)");
        String[] whole = {"row 55 roof 6 ;", "trader 1 front 2 limit 33 cover ;", "clash 1 2 ;", "covers 3 ;"};
        for (String text : whole) {
            // Within a word, the word that is left is a wrong one; from its last letter on, the end is unexpected.
            for (int length = 1; length < text.length(); length++) {
                boolean midWord = Character.isLetter(text.charAt(length - 1)) && Character.isLetter(text.charAt(length));
                int at = length;
                while (midWord && at > 0 && Character.isLetter(text.charAt(at - 1))) {
                    at--;
                }
                bad(text.substring(0, length), SYNTAX, at);
            }
            good(text, 1);
        }
        bad("row 1;row", SYNTAX, 9);
        bad("row 1; covers   ", SYNTAX, 16);
    }

    private static void range(String before, int lowest, int highest, String behind) {
        good(before + lowest + behind, 1);
        good(before + highest + behind, 1);
        good(before + "000" + highest + behind, 1);
        bad(before + (highest + 1) + behind, VALUE, before.length());
        bad(before + highest + "0" + behind, VALUE, before.length());
        bad(before + "99999999999999999999" + behind, VALUE, before.length());
        // Their lowest 32 or 64 bits are a number of the range.
        bad(before + (4294967296L + highest) + behind, VALUE, before.length());
        bad(before + "1844674407370955161" + (6 + lowest) + behind, VALUE, before.length());
        bad(before + (highest + 1), VALUE, before.length());
        if (lowest > 0) {
            bad(before + (lowest - 1) + behind, VALUE, before.length());
            bad(before + "000" + (lowest - 1) + behind, VALUE, before.length());
        }
    }

    private static void valueErrors() {
        KIT.says("VALUE_ERROR: a number that is out of its range (at its first digit).");
        range("row ", 1, 999, ";");
        range("row 5 roof   ", 1, 999, "roof;");
        range("trader ", 0, 7, " front 1 limit 1;");
        range("trader 0 front ", 1, 3, " limit 1;");
        range("trader 0 front 1 limit ", 1, 9999, ";");
        range("trader 0 front 1 limit", 1, 9999, "cover;");
        range("clash ", 0, 7, " 0;");
        range("clash 0 ", 0, 7, ";");
        range("covers ", 0, 4, ";");
    }

    private static void tooManyRows() {
        KIT.says("TOO_MANY: the word \"row\" of a fifth row");
        KIT.is("four rows", good("row 1;row 1;row 1;row 1;", 4).row(3), 3);
        bad("row 1;row 1;row 1;row 1;row 1;", MANY, 24);
        bad("row 1;row 1;row 1;row 1;   row 1;", MANY, 27);
        bad("row 1;row 1;row 1;row 1;row", MANY, 24);
        bad("row 1;row 1;row 1;row 1;row;", MANY, 24);
        bad("row 1;row 1;row 1;row 1;covers 1;row x;", MANY, 33);
    }

    private static void tooManyTraders() {
        KIT.says("the word \"trader\" of a ninth trader");
        KIT.is("eight traders", good(times(8, TRADER), 8).traderCount(), 8);
        bad(times(9, TRADER), MANY, 200);
        bad(times(8, TRADER) + "  trader", MANY, 202);
        bad(times(8, TRADER) + "row 1;trader;", MANY, 206);
        bad(times(8, TRADER) + "trader 8 front 1 limit 1;", MANY, 200);
    }

    private static void tooManyPitches() {
        KIT.says("or the first digit of a pitch that would be the 13th of its row or the 25th of the market.");
        KIT.is("12 of a row", good(TWELVE, 1).pitchCount(), 12);
        bad("row 1 1 1 1 1 1 1 1 1 1 1 1 77;", MANY, 28);
        bad("row 1 1 1 1 1 1 1 1 1 1 1 1roof   77;", MANY, 34);
        bad("row 1;row 1 1 1 1 1 1 1 1 1 1 1 1 77", MANY, 34);
        KIT.is("24 of the market", good(TWELVE + TWELVE, 2).pitchCount(), 24);
        KIT.is("24 in four rows", good(times(4, "row 1 1 1 1 1 1;"), 4).pitchCount(), 24);
        bad(TWELVE + TWELVE + "row 77;", MANY, 60);
        bad(times(3, "row 1 1 1 1 1 1;") + "row 1 1 1 1 1 1 77;", MANY, 64);
        bad(TWELVE + TWELVE.replace(";", " 1;"), MANY, 56);
    }

    // ---- promises 1 to 4

    private static void constants() {
        KIT.says("Error code of load: the text does not follow the grammar.");
        KIT.is("SYNTAX_ERROR", StreetMarket.SYNTAX_ERROR, SYNTAX);
        KIT.says("Error code of load: a number is out of its range.");
        KIT.is("VALUE_ERROR", StreetMarket.VALUE_ERROR, VALUE);
        KIT.says("Error code of load: there are too many rows, traders or pitches.");
        KIT.is("TOO_MANY", StreetMarket.TOO_MANY, MANY);
    }

    private static void newObject() {
        KIT.says("Creates a market without rows, traders, clashes and movable covers, and with an empty text buffer.");
        StreetMarket m = new StreetMarket();
        KIT.is("pitches", m.pitchCount(), 0);
        KIT.is("traders", m.traderCount(), 0);
        KIT.isThrown("row 0", IOOBE, () -> m.row(0));
        KIT.isThrown("trade 0", IOOBE, () -> m.trade(0));
        for (int i = 0; i < 64; i++) {
            KIT.is("clash", m.clash(i / 8, i % 8), false);
        }
        KIT.isThrown("load(1)", IAE, () -> m.load(1));
        KIT.is("covers", m.setCovers(0), 0);
        KIT.is("append to the empty buffer", m.append(BLANK, BLANK, BLANK, BLANK, BLANK), 20);
        KIT.is("load(0) of a new object", new StreetMarket().load(0), 0);
        KIT.isThrown("no change yet", ISE, new StreetMarket()::undo);
    }

    private static void append() {
        KIT.says("Appends 20 bytes to the text buffer: the four bytes of each argument in order, the most significant byte first.");
        String text = "row 11 12 13roof 14;";
        for (int place = 0; place < 20; place++) {
            // A wrong byte at each of the 20 places is found just there, whichever argument it comes with.
            byte[] bytes = TestKit.bytes(times(20, " "));
            bytes[place] = (byte) 0x80;
            int[] w = TestKit.five(bytes, 0);
            StreetMarket m = new StreetMarket();
            m.append(w[0], w[1], w[2], w[3], w[4]);
            KIT.is("load", m.load(20), SYNTAX);
            KIT.is("place", m.errorPosition(), place);
        }
        StreetMarket m = TestKit.loaded(text);
        KIT.is("rents", m.rent(0) + " " + m.rent(1) + " " + m.rent(2) + " " + m.rent(3) + m.isRoofed(2), "11 12 13 14true");
        StreetMarket high = new StreetMarket();
        high.append(-1, Integer.MIN_VALUE, Integer.MAX_VALUE, 0, -1);
        KIT.is("bytes above 127 are kept as they are", high.load(20) + " " + high.errorPosition(), "-2 0");
        // Of "r", "o", "w" with the highest bit set none is a letter.
        high.append(0xf26f7720, 0x313b2020, BLANK, BLANK, BLANK);
        KIT.is("a high bit is not dropped", high.load(20) + " " + high.errorPosition(), "-2 0");
    }

    private static void appendBeyondTheBuffer() {
        KIT.says("Throws IllegalStateException if the length would exceed 600");
        StreetMarket m = new StreetMarket();
        for (int length = 20; length <= 600; length += 20) {
            KIT.is("append", m.append(BLANK, BLANK, BLANK, BLANK, BLANK), length);
        }
        KIT.isThrown("a 31st append", ISE, () -> m.append(0, 0, 0, 0, 0));
        KIT.isThrown("and once more", ISE, () -> m.append(-1, -1, -1, -1, -1));
        KIT.is("the 600 spaces are as they were", m.load(600), 0);
        KIT.is("room again", m.append(BLANK, BLANK, BLANK, BLANK, BLANK), 20);
    }

    private static StreetMarket appended(String text) {
        StreetMarket m = new StreetMarket();
        byte[] bytes = TestKit.bytes(text);
        for (int at = 0; at < bytes.length; at += 20) {
            int[] w = TestKit.five(bytes, at);
            m.append(w[0], w[1], w[2], w[3], w[4]);
        }
        return m;
    }

    private static void loadOfTheFirstBytes() {
        KIT.says("Reads the first bytes of the text buffer as a setup text.");
        String text = "covers 1; covers 2;x";
        int[] due = {0, -2, -2, -2, -2, -2, -2, -2, -2, 1, 1, -2, -2, -2, -2, -2, -2, -2, -2, 2, -2};
        for (int length = 0; length <= 20; length++) {
            KIT.is("load(" + length + ")", appended(text).load(length), due[length]);
        }
        String full = times(75, "covers4;");
        KIT.is("none of 600", appended(full).load(0), 0);
        KIT.is("8 of 600", appended(full).load(8), 1);
        KIT.is("599 of 600", appended(full).load(599), SYNTAX);
        KIT.is("600 of 600", appended(full).load(600), 75);
        StreetMarket m = appended(full);
        m.load(599);
        KIT.is("the end is at the length that was given", m.errorPosition(), 599);
    }

    private static void loadReplaces() {
        KIT.says("If it has no error, its market replaces the present one, and no trader is placed.");
        StreetMarket m = TestKit.loaded("row 5 6roof; row 7; trader 3 front 1 limit 9; trader 4 front 1 limit 9 cover; clash 1 2; clash 0 0; clash 7 7; clash 0 7; covers 2;");
        m.place(0, 0);
        m.place(1, 2);
        KIT.is("an empty market", m.load(0), 0);
        KIT.is("nothing is left", m.pitchCount() + " " + m.traderCount() + " " + m.income() + " " + m.coversUsed(), "0 0 0 0");
        for (int i = 0; i < 64; i++) {
            KIT.is("no clash is left", m.clash(i / 8, i % 8), false);
        }
        KIT.is("no cover is left", m.setCovers(0), 0);
        TestKit.load(m, "row 5 6 8; trader 3 front 1 limit 9; trader 4 front 1 limit 9;");
        KIT.is("no trader is placed", m.start(0) + " " + m.start(1) + TestKit.placement(m), "-1 -1...");
        KIT.is("no roof of the old market is left", m.isRoofed(0) || m.isRoofed(1) || m.isRoofed(2), false);
        KIT.is("no need of the old market is left", m.obstacle(1, 0), 0);
        m.place(0, 0);
        TestKit.load(m, "row 5 6 8; trader 3 front 1 limit 9; trader 4 front 1 limit 9;");
        KIT.is("not even by the same text", m.start(0) + TestKit.placement(m), "-1...");
    }

    private static void loadKeeps() {
        KIT.says("In case of an error the present market stays.");
        for (String text : new String[] {"row 9 9; covers 4; clash 0 1; x", "row 9 9; trader 8", TWELVE + TWELVE + "row 9;"}) {
            StreetMarket m = TestKit.loaded("row 5 6roof; row 7; trader 3 front 1 limit 9; clash 1 2; covers 2;");
            m.place(0, 2);
            m.bestIncome();
            String before = m.rent(0) + " " + m.rent(2) + m.isRoofed(1) + m.pitchCount() + m.traderCount() + m.start(0)
                + TestKit.placement(m) + m.clash(1, 2) + m.clash(0, 1) + m.bestIncome() + m.bestRent(0);
            KIT.is("an error", TestKit.load(m, text) < 0, true);
            KIT.is("the market", m.rent(0) + " " + m.rent(2) + m.isRoofed(1) + m.pitchCount() + m.traderCount() + m.start(0)
                + TestKit.placement(m) + m.clash(1, 2) + m.clash(0, 1) + m.bestIncome() + m.bestRent(0), before);
            KIT.is("the covers", m.setCovers(0), 2);
            KIT.is("the changes: load, place, setCovers", m.undo(), 2);
        }
    }

    private static void loadEmptiesTheBuffer() {
        KIT.says("The buffer is empty afterwards in both cases.");
        StreetMarket m = appended("covers 1;");
        KIT.is("without an error", m.load(9), 1);
        KIT.isThrown("nothing is left", IAE, () -> m.load(1));
        KIT.is("the next text begins at 0", m.append(BLANK, BLANK, BLANK, BLANK, BLANK), 20);
        KIT.is("and is read from 0", m.load(20), 0);
        m.append(0, 0, 0, 0, 0);
        KIT.is("with an error", m.load(20), SYNTAX);
        KIT.isThrown("nothing is left after an error", IAE, () -> m.load(1));
        KIT.is("a text after an error begins at 0", m.append(BLANK, BLANK, BLANK, BLANK, BLANK), 20);
        KIT.is("load of less than all", m.load(1), 0);
        KIT.isThrown("the rest is gone too", IAE, () -> m.load(1));
        m.append(0, 0, 0, 0, 0);
        KIT.is("load of none", m.load(0), 0);
        KIT.isThrown("all of it is gone too", IAE, () -> m.load(1));
    }

    private static void loadOutOfRange() {
        KIT.says("Throws IllegalArgumentException if length is out of range");
        StreetMarket m = new StreetMarket();
        for (int wrong : new int[] {-1, 1, 20, 600, 601, Integer.MIN_VALUE, Integer.MAX_VALUE}) {
            KIT.isThrown("empty buffer, load " + wrong, IAE, () -> m.load(wrong));
        }
        m.append(BLANK, BLANK, BLANK, BLANK, BLANK);
        for (int wrong : new int[] {-1, 21, 40, 600, 601, Integer.MIN_VALUE, Integer.MAX_VALUE}) {
            KIT.isThrown("20 bytes, load " + wrong, IAE, () -> m.load(wrong));
        }
        KIT.is("the buffer stays", m.load(20), 0);
        StreetMarket full = appended(times(600, " "));
        for (int wrong : new int[] {-1, 601, 620, Integer.MIN_VALUE, Integer.MAX_VALUE}) {
            KIT.isThrown("600 bytes, load " + wrong, IAE, () -> full.load(wrong));
        }
        KIT.is("the full buffer stays", full.load(600), 0);
    }

    private static void errorPosition() {
        KIT.says("Returns the position; -1 if it found no error or if there was no call that did not throw.");
        StreetMarket m = new StreetMarket();
        KIT.is("no call", m.errorPosition(), -1);
        KIT.isThrown("a call that throws", IAE, () -> m.load(1));
        KIT.is("only a call that threw", m.errorPosition(), -1);
        KIT.is("an error at 0", TestKit.load(m, "x") + " " + m.errorPosition(), "-2 0");
        KIT.isThrown("a later call that throws", IAE, () -> m.load(-1));
        KIT.is("it stays at a throw", m.errorPosition(), 0);
        KIT.is("the latest counts", TestKit.load(m, "row 5; row 0;") + " " + m.errorPosition(), "-3 11");
        KIT.is("no error", TestKit.load(m, "row 5;") + " " + m.errorPosition(), "1 -1");
        KIT.is("an error at the end of the longest text", TestKit.load(m, times(599, " ") + "r") + " " + m.errorPosition(), "-2 599");
        KIT.is("an unexpected end at 600", TestKit.load(m, times(597, " ") + "row") + " " + m.errorPosition(), "-2 600");
        m.setCovers(1);
        m.undo();
        KIT.is("it stays at changes and undo", m.errorPosition(), 600);
        KIT.is("an empty text has no error", m.load(0) + " " + m.errorPosition(), "0 -1");
    }
}
