import java.util.function.Supplier;

/** All that calls can tell about an object, as one text: two objects with the same text cannot be told apart. */
final class Knowledge {
    private static final int BLANK = 0x20202020;

    private Knowledge() {
    }

    /** What calls tell that change nothing. */
    static String seen(StreetMarket m) {
        StringBuilder all = new StringBuilder(TestKit.state(m));
        for (int t = 0; t < m.traderCount(); t++) {
            all.append('\n').append("trader ").append(t).append(": ");
            for (int p = 0; p < m.pitchCount(); p++) {
                all.append(m.obstacle(t, p));
            }
            all.append(" worth ").append(m.contribution(t)).append(" first ").append(m.firstCome(t + 1));
            for (int moves = 0; moves <= 2 && m.start(t) < 0; moves++) {
                all.append(" inserted ").append(m.insertionIncome(t, moves));
            }
        }
        all.append('\n').append("best ").append(m.bestIncome()).append(" cover ").append(m.coverValue()).append(" rents");
        for (int p = 0; p < m.pitchCount(); p++) {
            all.append(' ').append(m.bestRent(p));
        }
        for (int i = 0; i < 64; i++) {
            all.append(' ').append(m.clashCost(i / 8, i % 8));
        }
        return all.append(" expected ").append(m.expectedIncome(0.3)).append('\n').toString();
    }

    /** What all calls tell: also the covers, the text buffer and the changes that can be undone. */
    static String all(Supplier<StreetMarket> maker) {
        StringBuilder all = new StringBuilder();
        for (int undone = 0; undone <= 7; undone++) {
            StreetMarket m = maker.get();
            for (int i = 0; i < undone; i++) {
                all.append("undo ").append(TestKit.outcome(m::undo)).append('\n');
            }
            all.append(seen(m)).append("covers ").append(coversOf(m)).append('\n');
        }
        return all.append(buffer(maker.get())).toString();
    }

    /** The number of covers: with covers in use, all that are possible is still an allowed number. */
    private static int coversOf(StreetMarket m) {
        return m.setCovers(4);
    }

    private static String buffer(StreetMarket m) {
        Object appended = TestKit.outcome(() -> m.append(BLANK, BLANK, BLANK, BLANK, BLANK));
        int length = appended instanceof Integer n ? n : 600;
        return "buffer " + appended + " load " + m.load(length) + "\n" + seen(m);
    }
}
