import java.nio.charset.StandardCharsets;

/** What the tests share: counting of wrong answers, and setup texts given as Java strings. */
final class TestKit {
    interface Call {
        Object run();
    }

    private int asked = 0;
    private int wrong = 0;
    private String sentence = "";

    /** The sentence of the document that the questions from here on test; it is told with each wrong answer. */
    void says(String words) {
        sentence = "'" + words + "': ";
    }

    void is(String what, Object got, Object due) {
        asked++;
        if (!due.equals(got)) {
            wrong++;
            System.out.println(sentence + what + " answered " + got + ", due is " + due);
        }
    }

    void isThrown(String what, Class<? extends RuntimeException> due, Call call) {
        is(what, outcome(call), due);
    }

    /** The answer of a call, or the class of the exception that it throws. */
    static Object outcome(Call call) {
        try {
            return call.run();
        } catch (RuntimeException e) {
            return e.getClass();
        }
    }

    void end(String name) {
        System.out.println(name + ": " + asked + " answers, " + wrong + " wrong");
        if (wrong != 0) {
            System.exit(1);
        }
    }

    static byte[] bytes(String text) {
        return text.getBytes(StandardCharsets.ISO_8859_1);
    }

    /** The bytes from a place on as the five arguments of append, filled up with spaces. */
    static int[] five(byte[] bytes, int from) {
        int[] words = new int[5];
        for (int i = 0; i < 20; i++) {
            int next = from + i < bytes.length ? bytes[from + i] & 255 : ' ';
            words[i / 4] = words[i / 4] << 8 | next;
        }
        return words;
    }

    static int load(StreetMarket market, String text) {
        byte[] bytes = bytes(text);
        for (int at = 0; at < bytes.length; at += 20) {
            int[] w = five(bytes, at);
            market.append(w[0], w[1], w[2], w[3], w[4]);
        }
        return market.load(bytes.length);
    }

    static StreetMarket loaded(String text) {
        StreetMarket market = new StreetMarket();
        int answer = load(market, text);
        if (answer < 0) {
            throw new AssertionError("a test's text has the error " + answer + ": " + text);
        }
        return market;
    }

    /** The placement as a text: for each pitch the number of its trader or a dot. */
    static String placement(StreetMarket market) {
        StringBuilder line = new StringBuilder();
        for (int pitch = 0; pitch < market.pitchCount(); pitch++) {
            int trader = market.traderAt(pitch);
            line.append(trader < 0 ? "." : String.valueOf(trader));
        }
        return line.toString();
    }

    /** All that the getters tell, for comparing before and after. */
    static String state(StreetMarket market) {
        StringBuilder line = new StringBuilder();
        for (int p = 0; p < market.pitchCount(); p++) {
            line.append(market.row(p)).append(':').append(market.rent(p)).append(market.isRoofed(p) ? "r " : " ");
        }
        for (int t = 0; t < market.traderCount(); t++) {
            line.append('|').append(market.trade(t)).append('/').append(market.frontage(t)).append('@').append(market.start(t));
        }
        for (int a = 0; a < 8; a++) {
            for (int b = 0; b < 8; b++) {
                line.append(market.clash(a, b) ? '1' : '0');
            }
        }
        return line.append(placement(market)).append(' ').append(market.income()).append(' ')
            .append(market.coversUsed()).append(' ').append(market.errorPosition()).toString();
    }
}
