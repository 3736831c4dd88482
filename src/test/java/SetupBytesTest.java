/**
 * Section 5 once more, without choosing cases: every byte put in every place of some texts, every byte left out, and
 * every length; PlainMarket, which splits the text into tokens first, says what is due.
 */
public final class SetupBytesTest {
    private static final TestKit KIT = new TestKit();
    private static final String[] TEXTS = {
        "row 7 999roof 1; trader 7 front 3 limit 9999 cover; clash 0 7; covers 4; ",
        "row7roof 9;trader0front1limit1;clash1 1;covers0;row 12;",
        // One more pitch of the first row, or of the market, is one too many.
        "row 1 1 1 1 1 1 1 1 1 1 1 1;row 2 2 2 2 2;row 3;row 4 4 4 4 4 4;",
        "row 1 1 1 1 1 1 1 1 1 1 1 1 roof ;"};

    public static void main(String[] args) {
        KIT.says("If several error codes fit the same position, the first one in this list is reported");
        for (String text : TEXTS) {
            KIT.is("no error in '" + text + "'", TestKit.load(new StreetMarket(), text) > 0, true);
            for (int at = 0; at <= text.length(); at++) {
                String before = text.substring(0, at);
                String behind = text.substring(at);
                agree(before);
                for (int b = 0; b < 256; b++) {
                    agree(before + (char) b + behind);
                    if (at < text.length()) {
                        agree(before + (char) b + behind.substring(1));
                    }
                }
                if (at < text.length()) {
                    agree(before + behind.substring(1));
                }
            }
        }
        behindFullLists();
        KIT.end("SetupBytesTest");
    }

    /** What may follow, or not, behind eight traders, and behind four rows. */
    private static void behindFullLists() {
        String eight = "trader 0 front 1 limit 1;".repeat(8);
        String four = "row 1;row 2 2;row 3roof;row 4;";
        for (String more : new String[] {"trader 0 front 1 limit 1;", "traders 0;", "row 1;", "rows 1;", "clash 1 2;", "covers 5;", "x"}) {
            for (int length = 0; length <= more.length(); length++) {
                agree(eight + more.substring(0, length));
                agree(four + more.substring(0, length));
                agree(eight + four + more.substring(0, length));
            }
        }
    }

    private static void agree(String text) {
        StreetMarket market = new StreetMarket();
        PlainMarket plain = new PlainMarket();
        byte[] bytes = TestKit.bytes(text);
        for (int at = 0; at < bytes.length; at += 20) {
            int[] w = TestKit.five(bytes, at);
            market.append(w[0], w[1], w[2], w[3], w[4]);
            plain.append(w[0], w[1], w[2], w[3], w[4]);
        }
        KIT.is("load, position, pitches and traders of '" + text + "'",
            market.load(bytes.length) + " " + market.errorPosition() + " " + market.pitchCount() + " " + market.traderCount(),
            plain.load(bytes.length) + " " + plain.errorPosition() + " " + plain.pitchCount() + " " + plain.traderCount());
        if (market.pitchCount() != plain.pitchCount() || market.traderCount() != plain.traderCount()) {
            return;
        }
        for (int p = 0; p < market.pitchCount(); p++) {
            KIT.is("pitch " + p + " of '" + text + "'", market.row(p) + " " + market.rent(p) + market.isRoofed(p),
                plain.row(p) + " " + plain.rent(p) + plain.isRoofed(p));
        }
        for (int t = 0; t < market.traderCount(); t++) {
            KIT.is("trader " + t + " of '" + text + "'", market.trade(t) + " " + market.frontage(t), plain.trade(t) + " " + plain.frontage(t));
        }
        if (market.pitchCount() + market.traderCount() > 0) {
            KIT.is("the covers of '" + text + "'", market.setCovers(0), plain.setCovers(0));
        }
    }
}
