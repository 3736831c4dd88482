import java.util.ArrayDeque;
import java.util.ArrayList;
import java.util.Arrays;
import java.util.Deque;
import java.util.HashMap;
import java.util.List;
import java.util.Map;

/**
 * The document once more, written as literally as it goes: every placement is tried and checked by the definition.
 * It has the face of StreetMarket, is slow, and is only used to say which answers are due.
 */
public final class PlainMarket {
    private static final class Pitch {
        int row;
        int rent;
        boolean roof;

        Pitch(int row, int rent, boolean roof) {
            this.row = row;
            this.rent = rent;
            this.roof = roof;
        }
    }

    private static final class Trader {
        final int trade;
        final int front;
        final int limit;
        final boolean cover;

        Trader(int trade, int front, int limit, boolean cover) {
            this.trade = trade;
            this.front = front;
            this.limit = limit;
            this.cover = cover;
        }
    }

    private static final class State {
        final List<Pitch> pitches = new ArrayList<>();
        final List<Trader> traders = new ArrayList<>();
        final boolean[][] clash = new boolean[8][8];
        int covers = 0;
        int[] starts = new int[0];

        State copy() {
            State c = new State();
            for (Pitch p : pitches) {
                c.pitches.add(new Pitch(p.row, p.rent, p.roof));
            }
            c.traders.addAll(traders);
            for (int i = 0; i < 8; i++) {
                c.clash[i] = clash[i].clone();
            }
            c.covers = covers;
            c.starts = starts.clone();
            return c;
        }

        int rentOf(int t, int start) {
            int sum = 0;
            for (int p = start; p < start + traders.get(t).front; p++) {
                sum += pitches.get(p).rent;
            }
            return sum;
        }

        int incomeOf(int[] at) {
            int sum = 0;
            for (int t = 0; t < traders.size(); t++) {
                sum += at[t] < 0 ? 0 : rentOf(t, at[t]);
            }
            return sum;
        }

        boolean inRow(int t, int start) {
            int last = start + traders.get(t).front - 1;
            return last < pitches.size() && pitches.get(start).row == pitches.get(last).row;
        }

        int open(int t, int start) {
            int n = 0;
            for (int p = start; p < start + traders.get(t).front; p++) {
                n += pitches.get(p).roof ? 0 : 1;
            }
            return n;
        }

        int coversOf(int[] at) {
            int n = 0;
            for (int t = 0; t < traders.size(); t++) {
                n += at[t] >= 0 && traders.get(t).cover ? open(t, at[t]) : 0;
            }
            return n;
        }

        /** Who stands where; null if a block leaves its row or two blocks overlap. */
        int[] map(int[] at) {
            int[] map = new int[pitches.size()];
            Arrays.fill(map, -1);
            for (int t = 0; t < traders.size(); t++) {
                if (at[t] >= 0) {
                    if (!inRow(t, at[t])) {
                        return null;
                    }
                    for (int p = at[t]; p < at[t] + traders.get(t).front; p++) {
                        if (map[p] >= 0) {
                            return null;
                        }
                        map[p] = t;
                    }
                }
            }
            return map;
        }

        boolean valid(int[] at) {
            int[] map = map(at);
            if (map == null || coversOf(at) > covers) {
                return false;
            }
            for (int t = 0; t < traders.size(); t++) {
                if (at[t] >= 0 && rentOf(t, at[t]) > traders.get(t).limit) {
                    return false;
                }
            }
            for (int p = 0; p + 1 < map.length; p++) {
                if (pitches.get(p).row == pitches.get(p + 1).row && map[p] >= 0 && map[p + 1] >= 0 && map[p] != map[p + 1]
                        && clash[traders.get(map[p]).trade][traders.get(map[p + 1]).trade]) {
                    return false;
                }
            }
            return true;
        }

        /** Negative if a comes first. */
        int compare(int[] a, int[] b) {
            int[] x = map(a);
            int[] y = map(b);
            for (int p = 0; p < x.length; p++) {
                if (x[p] != y[p]) {
                    return x[p] < 0 ? 1 : y[p] < 0 ? -1 : Integer.compare(x[p], y[p]);
                }
            }
            return 0;
        }
    }

    private static int placed(int[] at) {
        int n = 0;
        for (int s : at) {
            n += s >= 0 ? 1 : 0;
        }
        return n;
    }

    private final List<Integer> buffer = new ArrayList<>();
    private int errorPosition = -1;
    private State s = new State();
    private final Deque<State> past = new ArrayDeque<>();

    private void changing() {
        past.push(s.copy());
        if (past.size() > 6) {
            past.removeLast();
        }
    }

    public int append(int a, int b, int c, int d, int e) {
        if (buffer.size() + 20 > 600) {
            throw new IllegalStateException();
        }
        for (int w : new int[] {a, b, c, d, e}) {
            buffer.add(w >> 24 & 255);
            buffer.add(w >> 16 & 255);
            buffer.add(w >> 8 & 255);
            buffer.add(w & 255);
        }
        return buffer.size();
    }

    public int load(int length) {
        if (length < 0 || length > buffer.size()) {
            throw new IllegalArgumentException();
        }
        Parser parser = new Parser(buffer.subList(0, length));
        int answer = parser.run();
        errorPosition = parser.errorAt;
        buffer.clear();
        if (answer >= 0) {
            changing();
            s = parser.made;
        }
        return answer;
    }

    /** Splits the text into tokens, then goes through them with the grammar. */
    private static final class Parser {
        final List<String> tokens = new ArrayList<>();
        final List<Integer> places = new ArrayList<>();
        final State made = new State();
        int at = 0;
        int errorAt = -1;
        int code = 0;

        Parser(List<Integer> bytes) {
            StringBuilder all = new StringBuilder();
            for (int b : bytes) {
                all.append((char) b);
            }
            java.util.regex.Matcher m = java.util.regex.Pattern.compile("[a-z]+|[0-9]+|[^ ]", java.util.regex.Pattern.DOTALL).matcher(all);
            while (m.find()) {
                tokens.add(m.group());
                places.add(m.start());
            }
            tokens.add("");
            places.add(bytes.size());
        }

        private static final class Stop extends Exception {
            private static final long serialVersionUID = 1L;
        }

        int run() {
            int n = 0;
            int rows = 0;
            try {
                while (!tokens.get(at).isEmpty()) {
                    String word = tokens.get(at);
                    if (word.equals("row")) {
                        if (rows == 4) {
                            stop(TOO_MANY);
                        }
                        at++;
                        row(rows++);
                    } else if (word.equals("trader")) {
                        if (made.traders.size() == 8) {
                            stop(TOO_MANY);
                        }
                        at++;
                        trader();
                    } else if (word.equals("clash")) {
                        at++;
                        int a = number(0, 7);
                        int b = number(0, 7);
                        made.clash[a][b] = true;
                        made.clash[b][a] = true;
                    } else if (word.equals("covers")) {
                        at++;
                        made.covers = number(0, 4);
                    } else {
                        stop(SYNTAX_ERROR);
                    }
                    word(";");
                    n++;
                }
            } catch (Stop e) {
                return code;
            }
            made.starts = new int[made.traders.size()];
            Arrays.fill(made.starts, -1);
            return n;
        }

        private void row(int row) throws Stop {
            int inRow = 0;
            do {
                int place = at;
                int rent = number(1, 999);
                if (inRow == 12 || made.pitches.size() == 24) {
                    at = place;
                    stop(TOO_MANY);
                }
                boolean roof = tokens.get(at).equals("roof");
                at += roof ? 1 : 0;
                made.pitches.add(new Pitch(row, rent, roof));
                inRow++;
            } while (isNumber());
        }

        private void trader() throws Stop {
            int trade = number(0, 7);
            word("front");
            int front = number(1, 3);
            word("limit");
            int limit = number(1, 9999);
            boolean cover = tokens.get(at).equals("cover");
            at += cover ? 1 : 0;
            made.traders.add(new Trader(trade, front, limit, cover));
        }

        private boolean isNumber() {
            return tokens.get(at).matches("[0-9]+");
        }

        private int number(int low, int high) throws Stop {
            if (!isNumber()) {
                stop(SYNTAX_ERROR);
            }
            java.math.BigInteger value = new java.math.BigInteger(tokens.get(at));
            if (value.compareTo(java.math.BigInteger.valueOf(low)) < 0 || value.compareTo(java.math.BigInteger.valueOf(high)) > 0) {
                stop(VALUE_ERROR);
            }
            at++;
            return value.intValue();
        }

        private void word(String due) throws Stop {
            if (!tokens.get(at).equals(due)) {
                stop(SYNTAX_ERROR);
            }
            at++;
        }

        private void stop(int why) throws Stop {
            code = why;
            errorAt = places.get(at);
            throw new Stop();
        }
    }

    private static final int SYNTAX_ERROR = -2;
    private static final int VALUE_ERROR = -3;
    private static final int TOO_MANY = -4;

    public int errorPosition() {
        return errorPosition;
    }

    private static void inside(int i, int size) {
        if (i < 0 || i >= size) {
            throw new IndexOutOfBoundsException();
        }
    }

    private void pitch(int p) {
        inside(p, s.pitches.size());
    }

    private void trader(int t) {
        inside(t, s.traders.size());
    }

    private static void argument(boolean good) {
        if (!good) {
            throw new IllegalArgumentException();
        }
    }

    private static void state(boolean good) {
        if (!good) {
            throw new IllegalStateException();
        }
    }

    private static void trades(int a, int b) {
        argument(a >= 0 && a <= 7 && b >= 0 && b <= 7);
    }

    public int pitchCount() {
        return s.pitches.size();
    }

    public int row(int p) {
        pitch(p);
        return s.pitches.get(p).row;
    }

    public int rent(int p) {
        pitch(p);
        return s.pitches.get(p).rent;
    }

    public boolean isRoofed(int p) {
        pitch(p);
        return s.pitches.get(p).roof;
    }

    public int setRent(int p, int rent) {
        pitch(p);
        argument(rent >= 1 && rent <= 999);
        changing();
        s.pitches.get(p).rent = rent;
        int t = s.map(s.starts)[p];
        if (t < 0 || s.rentOf(t, s.starts[t]) <= s.traders.get(t).limit) {
            return -1;
        }
        s.starts[t] = -1;
        return t;
    }

    public int traderCount() {
        return s.traders.size();
    }

    public int trade(int t) {
        trader(t);
        return s.traders.get(t).trade;
    }

    public int frontage(int t) {
        trader(t);
        return s.traders.get(t).front;
    }

    public int addTrader(int trade, int frontage, int limit, boolean needsCover) {
        argument(trade >= 0 && trade <= 7 && frontage >= 1 && frontage <= 3 && limit >= 1 && limit <= 9999);
        state(s.traders.size() < 8);
        changing();
        s.traders.add(new Trader(trade, frontage, limit, needsCover));
        s.starts = Arrays.copyOf(s.starts, s.traders.size());
        s.starts[s.traders.size() - 1] = -1;
        return s.traders.size() - 1;
    }

    public boolean clash(int a, int b) {
        trades(a, b);
        return s.clash[a][b];
    }

    public void setClash(int a, int b, boolean clash) {
        trades(a, b);
        State next = s.copy();
        next.clash[a][b] = clash;
        next.clash[b][a] = clash;
        state(!clash || next.valid(next.starts));
        changing();
        s = next;
    }

    public int setCovers(int covers) {
        argument(covers >= 0 && covers <= 4);
        State next = s.copy();
        next.covers = covers;
        state(next.valid(next.starts));
        changing();
        int old = s.covers;
        s = next;
        return old;
    }

    public int traderAt(int p) {
        pitch(p);
        return s.map(s.starts)[p];
    }

    public int start(int t) {
        trader(t);
        return s.starts[t];
    }

    public int obstacle(int t, int p) {
        trader(t);
        pitch(p);
        return obstacle(s, s.starts, t, p);
    }

    private static int obstacle(State s, int[] starts, int t, int p) {
        if (starts[t] >= 0) {
            return 1;
        }
        if (!s.inRow(t, p)) {
            return 2;
        }
        int[] next = starts.clone();
        next[t] = p;
        if (s.map(next) == null) {
            return 3;
        }
        if (s.rentOf(t, p) > s.traders.get(t).limit) {
            return 4;
        }
        if (s.coversOf(next) > s.covers) {
            return 5;
        }
        return s.valid(next) ? 0 : 6;
    }

    public int place(int t, int p) {
        state(obstacle(t, p) == 0);
        changing();
        s.starts[t] = p;
        return s.rentOf(t, p);
    }

    public int remove(int t) {
        trader(t);
        state(s.starts[t] >= 0);
        changing();
        int old = s.starts[t];
        s.starts[t] = -1;
        return old;
    }

    public int swap(int a, int b) {
        trader(a);
        trader(b);
        state(a != b && s.starts[a] >= 0 && s.starts[b] >= 0);
        int[] next = s.starts.clone();
        next[a] = s.starts[b];
        next[b] = s.starts[a];
        state(s.valid(next));
        changing();
        s.starts = next;
        return income();
    }

    public int clear() {
        changing();
        int n = placed(s.starts);
        Arrays.fill(s.starts, -1);
        return n;
    }

    public int income() {
        return s.incomeOf(s.starts);
    }

    public int coversUsed() {
        return s.coversOf(s.starts);
    }

    public double expectedIncome(double rain) {
        argument(!Double.isNaN(rain) && rain >= 0.0 && rain <= 1.0);
        double sum = 0.0;
        for (int t = 0; t < s.traders.size(); t++) {
            if (s.starts[t] >= 0) {
                int r = s.rentOf(t, s.starts[t]);
                if (s.traders.get(t).cover || s.open(t, s.starts[t]) == 0) {
                    sum += r;
                } else {
                    sum += r * (1.0 - rain) + r * 0.5 * rain;
                }
            }
        }
        return sum;
    }

    /** The best placement by trying all; traders of the set stay away. */
    private static int[] best(State s, int away) {
        if (s.traders.size() > 4 || s.pitches.size() > 9) {
            return new Memo(s, away).run();
        }
        int[] at = new int[s.traders.size()];
        Arrays.fill(at, -1);
        int[][] best = {at.clone()};
        tryAll(s, away, 0, at, best);
        return best[0];
    }

    private static void tryAll(State s, int away, int t, int[] at, int[][] best) {
        if (t == at.length) {
            int more = Integer.compare(s.incomeOf(at), s.incomeOf(best[0]));
            more = more != 0 ? more : Integer.compare(placed(at), placed(best[0]));
            more = more != 0 ? more : -s.compare(at, best[0]);
            if (more > 0) {
                best[0] = at.clone();
            }
            return;
        }
        tryAll(s, away, t + 1, at, best);
        if ((away >> t & 1) == 0) {
            for (int p = 0; p < s.pitches.size(); p++) {
                at[t] = p;
                if (s.valid(at)) {
                    tryAll(s, away, t + 1, at, best);
                }
            }
            at[t] = -1;
        }
    }

    /** For larger markets: the best rest of the street by pitch, traders left, left neighbour and covers left. */
    private static final class Memo {
        private final State s;
        private final int away;
        private final Map<Long, int[]> known = new HashMap<>();

        Memo(State s, int away) {
            this.s = s;
            this.away = away;
        }

        int[] run() {
            int[] map = rest(0, away, -1, s.covers);
            int[] at = new int[s.traders.size()];
            Arrays.fill(at, -1);
            for (int p = s.pitches.size() - 1; p >= 0; p--) {
                if (map[p] >= 0) {
                    at[map[p]] = p;
                }
            }
            if (!s.valid(at)) {
                throw new AssertionError("the oracle made a placement that is not valid");
            }
            return at;
        }

        private int score(int from, int[] map) {
            int income = 0;
            int people = 0;
            for (int p = from; p < map.length; p++) {
                income += map[p] >= 0 ? s.pitches.get(p).rent : 0;
                people += map[p] >= 0 && (p == from || map[p - 1] != map[p]) ? 1 : 0;
            }
            return income * 10 + people;
        }

        private int[] rest(int p, int used, int left, int covers) {
            if (p == s.pitches.size()) {
                int[] none = new int[p];
                Arrays.fill(none, -1);
                return none;
            }
            if (p > 0 && s.pitches.get(p - 1).row != s.pitches.get(p).row) {
                left = -1;
            }
            long key = ((p * 256L + used) * 10 + left + 1) * 10 + covers;
            int[] old = known.get(key);
            if (old != null) {
                return old;
            }
            int[] best = null;
            for (int t = 0; t < s.traders.size(); t++) {
                Trader who = s.traders.get(t);
                int need = (used >> t & 1) != 0 || !s.inRow(t, p) ? 99 : who.cover ? s.open(t, p) : 0;
                if (need > covers && need > 0 || need == 99 || s.rentOf(t, p) > who.limit
                        || left >= 0 && s.clash[s.traders.get(left).trade][who.trade]) {
                    continue;
                }
                int[] map = rest(p + who.front, used | 1 << t, t, covers - need).clone();
                Arrays.fill(map, p, p + who.front, t);
                if (best == null || score(p, map) > score(p, best)) {
                    best = map;
                }
            }
            int[] free = rest(p + 1, used, -1, covers);
            if (best == null || score(p + 1, free) > score(p, best)) {
                best = free.clone();
                best[p] = -1;
            }
            known.put(key, best);
            return best;
        }
    }

    private static int bestIncome(State s) {
        return s.incomeOf(best(s, 0));
    }

    public int bestIncome() {
        return bestIncome(s);
    }

    public int optimise() {
        changing();
        s.starts = best(s, 0);
        return placed(s.starts);
    }

    public int clashCost(int a, int b) {
        trades(a, b);
        State other = s.copy();
        other.clash[a][b] = false;
        other.clash[b][a] = false;
        return bestIncome(other) - bestIncome();
    }

    public int coverValue() {
        State other = s.copy();
        other.covers++;
        return bestIncome(other) - bestIncome();
    }

    public int contribution(int t) {
        trader(t);
        return bestIncome() - s.incomeOf(best(s, 1 << t));
    }

    public int bestRent(int p) {
        pitch(p);
        State other = s.copy();
        int most = -1;
        int answer = 0;
        for (int rent = 1; rent <= 999; rent++) {
            other.pitches.get(p).rent = rent;
            int income = bestIncome(other);
            if (income > most) {
                most = income;
                answer = rent;
            }
        }
        return answer;
    }

    public int firstCome(long order) {
        argument(order >= 0);
        String digits = order == 0 ? "" : String.valueOf(order);
        for (int i = 0; i < digits.length(); i++) {
            int t = digits.charAt(i) - '1';
            argument(t >= 0 && t < s.traders.size() && digits.indexOf(digits.charAt(i)) == i);
        }
        int[] at = new int[s.traders.size()];
        Arrays.fill(at, -1);
        for (char digit : digits.toCharArray()) {
            int t = digit - '1';
            int where = -1;
            for (int p = 0; p < s.pitches.size(); p++) {
                if (obstacle(s, at, t, p) == 0 && (where < 0 || s.rentOf(t, p) > s.rentOf(t, where))) {
                    where = p;
                }
            }
            at[t] = where;
        }
        return s.incomeOf(at);
    }

    public int insertionIncome(int t, int moves) {
        int[] best = insertion(t, moves);
        return best == null ? -1 : s.incomeOf(best);
    }

    public int insert(int t, int moves) {
        int[] best = insertion(t, moves);
        state(best != null);
        changing();
        int moved = moved(best);
        s.starts = best;
        return moved;
    }

    private int[] insertion(int t, int moves) {
        trader(t);
        argument(moves >= 0 && moves <= 2);
        state(s.starts[t] < 0);
        int[] at = new int[s.traders.size()];
        Arrays.fill(at, -1);
        int[][] best = {null};
        tryInsertions(t, moves, 0, at, best);
        return best[0];
    }

    private int moved(int[] at) {
        int n = 0;
        for (int t = 0; t < at.length; t++) {
            n += s.starts[t] >= 0 && at[t] >= 0 && s.starts[t] != at[t] ? 1 : 0;
        }
        return n;
    }

    private void tryInsertions(int newcomer, int moves, int t, int[] at, int[][] best) {
        if (t == at.length) {
            int more = 1;
            if (best[0] != null) {
                more = Integer.compare(s.incomeOf(at), s.incomeOf(best[0]));
                more = more != 0 ? more : Integer.compare(moved(best[0]), moved(at));
                more = more != 0 ? more : -s.compare(at, best[0]);
            }
            if (more > 0) {
                best[0] = at.clone();
            }
            return;
        }
        if (t != newcomer && s.starts[t] < 0) {
            tryInsertions(newcomer, moves, t + 1, at, best);
            return;
        }
        for (int p = 0; p < s.pitches.size(); p++) {
            at[t] = p;
            if (moved(at) <= moves && s.valid(at)) {
                tryInsertions(newcomer, moves, t + 1, at, best);
            }
        }
        at[t] = -1;
    }

    public int undo() {
        state(!past.isEmpty());
        s = past.pop();
        return past.size();
    }
}
