public final class StreetMarket {
    public static final int SYNTAX_ERROR = -2;
    public static final int VALUE_ERROR = -3;
    public static final int TOO_MANY = -4;

    private static final int MAX_TEXT = 600;
    private static final int MAX_ROWS = 4;
    private static final int MAX_ROW_PITCHES = 12;
    private static final int MAX_PITCHES = 24;
    private static final int MAX_RENT = 999;
    private static final int MAX_TRADERS = 8;
    private static final int TRADES = 8;
    private static final int MAX_FRONT = 3;
    private static final int MAX_LIMIT = 9999;
    private static final int MAX_COVERS = 4;
    private static final int MAX_MOVES = 2;
    private static final int MAX_UNDO = 6;
    private static final int NOBODY = -1;
    private static final int NOWHERE = -1;

    private final int[] text;
    private int textLength;
    private int errorAt;
    private final SetupReader reader;
    private final Market market;
    private final Market draft;
    private final History history;
    private final Planner planner;
    private final Planner trialPlanner;
    private final Insertion insertion;
    private final int[] queue;
    // Whether the planner's table belongs to the market as it is now.
    private boolean planned;

    public StreetMarket() {
        text = new int[MAX_TEXT];
        textLength = 0;
        errorAt = NOWHERE;
        reader = new SetupReader();
        market = new Market();
        draft = new Market();
        history = new History();
        planner = new Planner();
        trialPlanner = new Planner();
        insertion = new Insertion();
        queue = new int[MAX_TRADERS];
        planned = false;
    }

    // ---- setup

    public int append(int a, int b, int c, int d, int e) throws IllegalStateException {
        if (textLength + 20 > MAX_TEXT) {
            throw new IllegalStateException("the text would be too long");
        }
        appendFour(a);
        appendFour(b);
        appendFour(c);
        appendFour(d);
        appendFour(e);
        return textLength;
    }

    private void appendFour(int bytes) {
        for (int shift = 24; shift >= 0 && textLength < MAX_TEXT; shift -= 8) {
            text[textLength] = bytes >>> shift & 255;
            textLength++;
        }
    }

    public int load(int length) throws IllegalArgumentException {
        if (length < 0 || length > textLength) {
            throw new IllegalArgumentException("the length is out of range");
        }
        int answer = reader.read(text, length, draft);
        errorAt = reader.errorAt;
        textLength = 0;
        if (answer >= 0) {
            history.remember(market);
            market.copyFrom(draft);
            planned = false;
        }
        return answer;
    }

    public int errorPosition() {
        return errorAt;
    }

    // ---- pitches

    public int pitchCount() {
        return market.pitches;
    }

    public int row(int pitch) throws IndexOutOfBoundsException {
        requirePitch(pitch);
        return market.rows[pitch];
    }

    public int rent(int pitch) throws IndexOutOfBoundsException {
        requirePitch(pitch);
        return market.rents[pitch];
    }

    public boolean isRoofed(int pitch) throws IndexOutOfBoundsException {
        requirePitch(pitch);
        return market.roofs[pitch];
    }

    public int setRent(int pitch, int rent) throws IndexOutOfBoundsException, IllegalArgumentException {
        requirePitch(pitch);
        if (isOutside(rent, 1, MAX_RENT)) {
            throw new IllegalArgumentException("the rent is out of range");
        }
        history.remember(market);
        planned = false;
        market.rents[pitch] = rent;
        int trader = market.standing[pitch];
        if (trader == NOBODY || market.affords(trader, market.starts[trader])) {
            return NOBODY;
        }
        market.unseat(trader);
        return trader;
    }

    // ---- traders

    public int traderCount() {
        return market.traders;
    }

    public int trade(int trader) throws IndexOutOfBoundsException {
        requireTrader(trader);
        return market.trades[trader];
    }

    public int frontage(int trader) throws IndexOutOfBoundsException {
        requireTrader(trader);
        return market.fronts[trader];
    }

    public int addTrader(int trade, int frontage, int limit, boolean needsCover)
            throws IllegalArgumentException, IllegalStateException {
        if (isNoTrade(trade) || isOutside(frontage, 1, MAX_FRONT) || isOutside(limit, 1, MAX_LIMIT)) {
            throw new IllegalArgumentException("a parameter is out of range");
        }
        if (market.traders >= MAX_TRADERS) {
            throw new IllegalStateException("there are already 8 traders");
        }
        history.remember(market);
        planned = false;
        market.enrol(trade, frontage, limit, needsCover);
        return market.traders - 1;
    }

    public boolean clash(int first, int second) throws IllegalArgumentException {
        requireTrades(first, second);
        return market.areClashing(first, second);
    }

    public void setClash(int first, int second, boolean clash)
            throws IllegalArgumentException, IllegalStateException {
        requireTrades(first, second);
        if (clash && market.standSideBySide(first, second)) {
            throw new IllegalStateException("traders with these trades stand side by side");
        }
        history.remember(market);
        planned = false;
        market.putClash(first, second, clash);
    }

    public int setCovers(int covers) throws IllegalArgumentException, IllegalStateException {
        if (isOutside(covers, 0, MAX_COVERS)) {
            throw new IllegalArgumentException("the number of covers is out of range");
        }
        if (market.coversBusy > covers) {
            throw new IllegalStateException("more covers are in use");
        }
        history.remember(market);
        planned = false;
        int previous = market.covers;
        market.covers = covers;
        return previous;
    }

    // ---- the present placement

    public int traderAt(int pitch) throws IndexOutOfBoundsException {
        requirePitch(pitch);
        return market.standing[pitch];
    }

    public int start(int trader) throws IndexOutOfBoundsException {
        requireTrader(trader);
        return market.starts[trader];
    }

    public int obstacle(int trader, int pitch) throws IndexOutOfBoundsException {
        requireTrader(trader);
        requirePitch(pitch);
        return market.hindrance(trader, pitch);
    }

    public int place(int trader, int pitch) throws IndexOutOfBoundsException, IllegalStateException {
        requireTrader(trader);
        requirePitch(pitch);
        if (market.hindrance(trader, pitch) != 0) {
            throw new IllegalStateException("the trader cannot be placed there");
        }
        history.remember(market);
        market.seat(trader, pitch);
        return market.blockRent(trader, pitch);
    }

    public int remove(int trader) throws IndexOutOfBoundsException, IllegalStateException {
        requireTrader(trader);
        int previous = market.starts[trader];
        if (previous == NOWHERE) {
            throw new IllegalStateException("the trader is not placed");
        }
        history.remember(market);
        market.unseat(trader);
        return previous;
    }

    public int swap(int first, int second) throws IndexOutOfBoundsException, IllegalStateException {
        requireTrader(first);
        requireTrader(second);
        if (first == second || !market.isSeated(first) || !market.isSeated(second)) {
            throw new IllegalStateException("two placed traders are needed");
        }
        if (!draftExchange(first, second)) {
            throw new IllegalStateException("the placement would not be valid");
        }
        history.remember(market);
        market.copyFrom(draft);
        return market.totalRent();
    }

    // Leaves the exchanged placement in the draft; answers whether it is valid.
    private boolean draftExchange(int first, int second) {
        draft.copyFrom(market);
        draft.unseat(first);
        draft.unseat(second);
        return draft.seatIfPossible(first, market.starts[second])
            && draft.seatIfPossible(second, market.starts[first]);
    }

    public int clear() {
        history.remember(market);
        int placed = market.countSeated();
        market.unseatAll();
        return placed;
    }

    public int income() {
        return market.totalRent();
    }

    public int coversUsed() {
        return market.coversBusy;
    }

    public double expectedIncome(double rain) throws IllegalArgumentException {
        // Asked this way round, so that a rain that is not a number is refused too.
        if (!(rain >= 0.0 && rain <= 1.0)) {
            throw new IllegalArgumentException("rain is not a number from 0.0 to 1.0");
        }
        double expected = 0.0;
        for (int trader = 0; trader < market.traders; trader++) {
            if (market.isSeated(trader)) {
                int r = market.blockRent(trader, market.starts[trader]);
                expected += market.isSheltered(trader) ? r : r * (1.0 - rain) + r * 0.5 * rain;
            }
        }
        return expected;
    }

    // ---- planning

    public int bestIncome() {
        preparePlan();
        return planner.incomeWithout(0, market.covers);
    }

    private void preparePlan() {
        if (!planned) {
            planner.plan(market);
            planned = true;
        }
    }

    public int optimise() {
        preparePlan();
        history.remember(market);
        market.unseatAll();
        planner.seatBest(market);
        return market.countSeated();
    }

    public int clashCost(int first, int second) throws IllegalArgumentException {
        requireTrades(first, second);
        if (!market.areClashing(first, second)) {
            return 0;
        }
        preparePlan();
        draft.copyFrom(market);
        draft.putClash(first, second, false);
        trialPlanner.plan(draft);
        return trialPlanner.incomeWithout(0, market.covers) - planner.incomeWithout(0, market.covers);
    }

    public int coverValue() {
        preparePlan();
        return planner.incomeWithout(0, market.covers + 1) - planner.incomeWithout(0, market.covers);
    }

    public int contribution(int trader) throws IndexOutOfBoundsException {
        requireTrader(trader);
        preparePlan();
        return planner.incomeWithout(0, market.covers) - planner.incomeWithout(1 << trader, market.covers);
    }

    public int bestRent(int pitch) throws IndexOutOfBoundsException {
        requirePitch(pitch);
        preparePlan();
        draft.copyFrom(market);
        draft.turnAround();
        trialPlanner.plan(draft);
        return planner.dearestRent(pitch, trialPlanner);
    }

    public int firstCome(long order) throws IllegalArgumentException {
        int coming = readQueue(order);
        if (coming < 0) {
            throw new IllegalArgumentException("the order is not one of existing traders");
        }
        draft.copyFrom(market);
        draft.unseatAll();
        for (int i = coming - 1; i >= 0; i--) {
            draft.seatDearest(queue[i]);
        }
        return draft.totalRent();
    }

    // Puts the traders of the digits into the queue, the lowest digit first; answers their number,
    // or -1 if the order is wrong.
    private int readQueue(long order) {
        if (order < 0) {
            return -1;
        }
        int seen = 0;
        int count = 0;
        for (long rest = order; rest > 0; rest /= 10) {
            int trader = (int) (rest % 10) - 1;
            if (!market.hasTrader(trader) || (seen >> trader & 1) != 0 || count >= MAX_TRADERS) {
                return -1;
            }
            seen |= 1 << trader;
            queue[count] = trader;
            count++;
        }
        return count;
    }

    public int insertionIncome(int trader, int moves)
            throws IndexOutOfBoundsException, IllegalArgumentException, IllegalStateException {
        requireNewcomer(trader, moves);
        insertion.search(market, trader, moves);
        return insertion.mostIncome;
    }

    public int insert(int trader, int moves)
            throws IndexOutOfBoundsException, IllegalArgumentException, IllegalStateException {
        requireNewcomer(trader, moves);
        insertion.search(market, trader, moves);
        if (insertion.mostIncome < 0) {
            throw new IllegalStateException("there is no insertion");
        }
        history.remember(market);
        market.copyFrom(insertion.found);
        return insertion.fewestMoved;
    }

    // ---- changes

    public int undo() throws IllegalStateException {
        if (history.count == 0) {
            throw new IllegalStateException("there is no change to undo");
        }
        history.takeBack(market);
        planned = false;
        return history.count;
    }

    // ---- what the calls require

    private void requirePitch(int pitch) {
        if (!market.hasPitch(pitch)) {
            throw new IndexOutOfBoundsException("the pitch does not exist");
        }
    }

    private void requireTrader(int trader) {
        if (!market.hasTrader(trader)) {
            throw new IndexOutOfBoundsException("the trader does not exist");
        }
    }

    private static void requireTrades(int first, int second) {
        if (isNoTrade(first) || isNoTrade(second)) {
            throw new IllegalArgumentException("a trade is out of range");
        }
    }

    private void requireNewcomer(int trader, int moves) {
        requireTrader(trader);
        if (isOutside(moves, 0, MAX_MOVES)) {
            throw new IllegalArgumentException("moves is out of range");
        }
        if (market.isSeated(trader)) {
            throw new IllegalStateException("the trader is placed");
        }
    }

    private static boolean isNoTrade(int trade) {
        return isOutside(trade, 0, TRADES - 1);
    }

    private static boolean isOutside(int value, int lowest, int highest) {
        return value < lowest || value > highest;
    }

    // The pitches, the traders and a placement: all that a change can change.
    private static final class Market {
        int pitches = 0;
        final int[] rows = new int[MAX_PITCHES];
        final int[] rents = new int[MAX_PITCHES];
        final boolean[] roofs = new boolean[MAX_PITCHES];
        int traders = 0;
        final int[] trades = new int[MAX_TRADERS];
        final int[] fronts = new int[MAX_TRADERS];
        final int[] limits = new int[MAX_TRADERS];
        final boolean[] needy = new boolean[MAX_TRADERS];
        // A bit for each trade that clashes with the trade of the index.
        final int[] clashes = new int[TRADES];
        int covers = 0;
        // The placement, told twice, so that both questions are answered at once.
        final int[] starts = new int[MAX_TRADERS];
        final int[] standing = new int[MAX_PITCHES];
        int coversBusy = 0;

        Market() {
            for (int trader = 0; trader < MAX_TRADERS; trader++) {
                starts[trader] = NOWHERE;
            }
            for (int pitch = 0; pitch < MAX_PITCHES; pitch++) {
                standing[pitch] = NOBODY;
            }
        }

        void copyFrom(Market other) {
            pitches = other.pitches;
            System.arraycopy(other.rows, 0, rows, 0, MAX_PITCHES);
            System.arraycopy(other.rents, 0, rents, 0, MAX_PITCHES);
            for (int pitch = 0; pitch < MAX_PITCHES; pitch++) {
                roofs[pitch] = other.roofs[pitch];
            }
            traders = other.traders;
            System.arraycopy(other.trades, 0, trades, 0, MAX_TRADERS);
            System.arraycopy(other.fronts, 0, fronts, 0, MAX_TRADERS);
            System.arraycopy(other.limits, 0, limits, 0, MAX_TRADERS);
            for (int trader = 0; trader < MAX_TRADERS; trader++) {
                needy[trader] = other.needy[trader];
            }
            System.arraycopy(other.clashes, 0, clashes, 0, TRADES);
            covers = other.covers;
            System.arraycopy(other.starts, 0, starts, 0, MAX_TRADERS);
            System.arraycopy(other.standing, 0, standing, 0, MAX_PITCHES);
            coversBusy = other.coversBusy;
        }

        void wipe() {
            unseatAll();
            pitches = 0;
            traders = 0;
            covers = 0;
            for (int trade = 0; trade < TRADES; trade++) {
                clashes[trade] = 0;
            }
        }

        boolean hasPitch(int pitch) {
            return pitch >= 0 && pitch < pitches;
        }

        boolean hasTrader(int trader) {
            return trader >= 0 && trader < traders;
        }

        void addPitch(int row, int rent, boolean roof) {
            if (pitches < MAX_PITCHES) {
                rows[pitches] = row;
                rents[pitches] = rent;
                roofs[pitches] = roof;
                pitches++;
            }
        }

        void enrol(int trade, int front, int limit, boolean needsCover) {
            if (traders < MAX_TRADERS) {
                trades[traders] = trade;
                fronts[traders] = front;
                limits[traders] = limit;
                needy[traders] = needsCover;
                traders++;
            }
        }

        void putClash(int first, int second, boolean on) {
            if (on) {
                clashes[first] |= 1 << second;
                clashes[second] |= 1 << first;
            } else {
                clashes[first] &= ~(1 << second);
                clashes[second] &= ~(1 << first);
            }
        }

        boolean areClashing(int first, int second) {
            return (clashes[first] >> second & 1) != 0;
        }

        // Whether all pitches from first to last exist and are of one row.
        boolean shareRow(int first, int last) {
            return first >= 0 && first <= last && last < pitches && rows[first] == rows[last];
        }

        boolean isInOneRow(int trader, int start) {
            return shareRow(start, start + fronts[trader] - 1);
        }

        int blockRent(int trader, int start) {
            int sum = 0;
            int end = start + fronts[trader];
            for (int pitch = start; pitch < end && pitch < pitches; pitch++) {
                sum += rents[pitch];
            }
            return sum;
        }

        boolean affords(int trader, int start) {
            return blockRent(trader, start) <= limits[trader];
        }

        int openPitches(int trader, int start) {
            int open = 0;
            int end = start + fronts[trader];
            for (int pitch = start; pitch < end && pitch < pitches; pitch++) {
                if (!roofs[pitch]) {
                    open++;
                }
            }
            return open;
        }

        int coversFor(int trader, int start) {
            return needy[trader] ? openPitches(trader, start) : 0;
        }

        boolean isSeated(int trader) {
            return starts[trader] != NOWHERE;
        }

        boolean isSheltered(int trader) {
            return needy[trader] || openPitches(trader, starts[trader]) == 0;
        }

        boolean isBlockFree(int trader, int start) {
            int end = start + fronts[trader];
            for (int pitch = start; pitch < end && pitch < pitches; pitch++) {
                if (standing[pitch] != NOBODY) {
                    return false;
                }
            }
            return true;
        }

        boolean clashesBeside(int trader, int start) {
            int last = start + fronts[trader] - 1;
            return shareRow(start - 1, start) && clashesWith(trader, standing[start - 1])
                || shareRow(last, last + 1) && clashesWith(trader, standing[last + 1]);
        }

        boolean clashesWith(int trader, int other) {
            return other != NOBODY && (clashes[trades[trader]] >> trades[other] & 1) != 0;
        }

        int hindrance(int trader, int start) {
            if (isSeated(trader)) {
                return 1;
            }
            if (!isInOneRow(trader, start)) {
                return 2;
            }
            if (!isBlockFree(trader, start)) {
                return 3;
            }
            if (!affords(trader, start)) {
                return 4;
            }
            if (coversBusy + coversFor(trader, start) > covers) {
                return 5;
            }
            return clashesBeside(trader, start) ? 6 : 0;
        }

        void seat(int trader, int start) {
            settle(start, fronts[trader], trader);
            starts[trader] = start;
            coversBusy += coversFor(trader, start);
        }

        boolean seatIfPossible(int trader, int start) {
            if (hindrance(trader, start) != 0) {
                return false;
            }
            seat(trader, start);
            return true;
        }

        // The possible start with the greatest rent, the lowest of several; one start is left out.
        int dearestStart(int trader, int leftOut) {
            int dearest = NOWHERE;
            int most = 0;
            for (int pitch = 0; pitch < pitches; pitch++) {
                int sum = blockRent(trader, pitch);
                if (sum > most && pitch != leftOut && hindrance(trader, pitch) == 0) {
                    most = sum;
                    dearest = pitch;
                }
            }
            return dearest;
        }

        void seatDearest(int trader) {
            int dearest = dearestStart(trader, NOWHERE);
            if (dearest != NOWHERE) {
                seat(trader, dearest);
            }
        }

        void unseat(int trader) {
            if (isSeated(trader)) {
                int start = starts[trader];
                settle(start, fronts[trader], NOBODY);
                starts[trader] = NOWHERE;
                coversBusy -= coversFor(trader, start);
            }
        }

        void unseatAll() {
            for (int trader = 0; trader < traders; trader++) {
                unseat(trader);
            }
        }

        private void settle(int start, int front, int trader) {
            int end = start + front;
            for (int pitch = start; pitch < end && pitch < pitches; pitch++) {
                standing[pitch] = trader;
            }
        }

        int countSeated() {
            int count = 0;
            for (int trader = 0; trader < traders; trader++) {
                if (isSeated(trader)) {
                    count++;
                }
            }
            return count;
        }

        int totalRent() {
            int sum = 0;
            for (int trader = 0; trader < traders; trader++) {
                if (isSeated(trader)) {
                    sum += blockRent(trader, starts[trader]);
                }
            }
            return sum;
        }

        boolean standSideBySide(int firstTrade, int secondTrade) {
            for (int pitch = 0; pitch + 1 < pitches; pitch++) {
                int left = standing[pitch];
                int right = standing[pitch + 1];
                if (left != right && left != NOBODY && right != NOBODY && shareRow(pitch, pitch + 1)
                        && isPair(trades[left], trades[right], firstTrade, secondTrade)) {
                    return true;
                }
            }
            return false;
        }

        private static boolean isPair(int left, int right, int first, int second) {
            return left == first && right == second || left == second && right == first;
        }

        boolean comesBefore(Market other) {
            for (int pitch = 0; pitch < pitches; pitch++) {
                int here = standing[pitch];
                int there = other.standing[pitch];
                if (here != there) {
                    return there == NOBODY || here != NOBODY && here < there;
                }
            }
            return false;
        }

        // The same street seen from its other end; nobody is placed then. The rows keep their numbers:
        // only whether two pitches share a row matters to a plan.
        void turnAround() {
            unseatAll();
            for (int left = 0, right = pitches - 1; left < right; left++, right--) {
                int row = rows[left];
                rows[left] = rows[right];
                rows[right] = row;
                int rent = rents[left];
                rents[left] = rents[right];
                rents[right] = rent;
                boolean roof = roofs[left];
                roofs[left] = roofs[right];
                roofs[right] = roof;
            }
        }
    }

    // The markets before the latest changes, in a ring of rows that are used again.
    private static final class History {
        private final Market[] kept = new Market[MAX_UNDO];
        private int newest = 0;
        int count = 0;

        History() {
            for (int i = 0; i < MAX_UNDO; i++) {
                kept[i] = new Market();
            }
        }

        void remember(Market market) {
            newest = newest + 1 < MAX_UNDO ? newest + 1 : 0;
            kept[newest].copyFrom(market);
            if (count < MAX_UNDO) {
                count++;
            }
        }

        void takeBack(Market market) {
            if (count > 0) {
                market.copyFrom(kept[newest]);
                newest = newest > 0 ? newest - 1 : MAX_UNDO - 1;
                count--;
            }
        }
    }

    // Reads a setup text. After an error nothing more is taken from the text, so that the first error stays.
    private static final class SetupReader {
        private int[] text = new int[0];
        private int length = 0;
        private int position = 0;
        private int rowsRead = 0;
        private int error = 0;
        int errorAt = NOWHERE;

        int read(int[] source, int sourceLength, Market target) {
            text = source;
            length = Math.min(sourceLength, source.length);
            position = 0;
            rowsRead = 0;
            error = 0;
            errorAt = NOWHERE;
            target.wipe();
            // A statement takes more than a byte, so there are fewer statements than bytes.
            for (int statements = 0; statements <= MAX_TEXT; statements++) {
                skipSpaces();
                if (position >= length) {
                    return statements;
                }
                readStatement(target);
                if (error != 0) {
                    return error;
                }
            }
            return SYNTAX_ERROR;
        }

        private void readStatement(Market target) {
            int wordAt = position;
            if (takesWord("row")) {
                readRow(target, wordAt);
            } else if (takesWord("trader")) {
                readTrader(target, wordAt);
            } else if (takesWord("clash")) {
                readClash(target);
            } else if (takesWord("covers")) {
                target.covers = readNumber(0, MAX_COVERS);
            } else {
                fail(SYNTAX_ERROR, wordAt);
            }
            readSemicolon();
        }

        private void readRow(Market target, int wordAt) {
            if (rowsRead >= MAX_ROWS) {
                fail(TOO_MANY, wordAt);
                return;
            }
            readPitch(target, 0);
            for (int inRow = 1; inRow <= MAX_ROW_PITCHES && isAtDigit(); inRow++) {
                readPitch(target, inRow);
            }
            rowsRead++;
        }

        private void readPitch(Market target, int inRow) {
            skipSpaces();
            int numberAt = position;
            int rent = readNumber(1, MAX_RENT);
            if (inRow >= MAX_ROW_PITCHES || target.pitches >= MAX_PITCHES) {
                fail(TOO_MANY, numberAt);
            }
            boolean roof = takesWord("roof");
            if (error == 0) {
                target.addPitch(rowsRead, rent, roof);
            }
        }

        private void readTrader(Market target, int wordAt) {
            if (target.traders >= MAX_TRADERS) {
                fail(TOO_MANY, wordAt);
            }
            int trade = readNumber(0, TRADES - 1);
            readWord("front");
            int front = readNumber(1, MAX_FRONT);
            readWord("limit");
            int limit = readNumber(1, MAX_LIMIT);
            boolean needsCover = takesWord("cover");
            if (error == 0) {
                target.enrol(trade, front, limit, needsCover);
            }
        }

        private void readClash(Market target) {
            int first = readNumber(0, TRADES - 1);
            int second = readNumber(0, TRADES - 1);
            if (error == 0) {
                target.putClash(first, second, true);
            }
        }

        private void fail(int code, int at) {
            if (error == 0) {
                error = code;
                errorAt = at;
            }
        }

        private void skipSpaces() {
            while (position < length && text[position] == ' ') {
                position++;
            }
        }

        private boolean isLetter(int at) {
            return at < length && text[at] >= 'a' && text[at] <= 'z';
        }

        private boolean isDigit(int at) {
            return at < length && text[at] >= '0' && text[at] <= '9';
        }

        private boolean isAtDigit() {
            skipSpaces();
            return error == 0 && isDigit(position);
        }

        // Takes the word if it is the next token; otherwise only spaces are passed over.
        private boolean takesWord(String word) {
            skipSpaces();
            int size = word.length();
            if (error != 0 || position + size > length || isLetter(position + size)) {
                return false;
            }
            for (int i = 0; i < size; i++) {
                if (text[position + i] != word.charAt(i)) {
                    return false;
                }
            }
            position += size;
            return true;
        }

        private void readWord(String word) {
            if (!takesWord(word)) {
                fail(SYNTAX_ERROR, position);
            }
        }

        // Answers 0 after an error; that is never used.
        private int readNumber(int lowest, int highest) {
            if (!isAtDigit()) {
                fail(SYNTAX_ERROR, position);
                return 0;
            }
            int numberAt = position;
            int number = 0;
            while (position < length && isDigit(position)) {
                // Held just above every range, so that a long number cannot wrap around.
                number = Math.min(number * 10 + text[position] - '0', MAX_LIMIT + 1);
                position++;
            }
            if (isOutside(number, lowest, highest)) {
                fail(VALUE_ERROR, numberAt);
                return 0;
            }
            return number;
        }

        private void readSemicolon() {
            skipSpaces();
            if (error == 0 && position < length && text[position] == ';') {
                position++;
            } else {
                fail(SYNTAX_ERROR, position);
            }
        }
    }

    // Finds the best placement of a market. From the last pitch to the first, a table holds what the pitches
    // from there on are worth at most: for each set of traders who stand before them already or stay away,
    // for each kind of left neighbour, and for each number of movable covers that are left.
    private static final class Planner {
        // A trader is worth its rent times this, plus 1: so the income counts first, then the number of traders.
        private static final int INCOME_UNIT = 16;
        // The kind of neighbour beside whom everybody may stand; a free pitch and a row's end are of it too.
        private static final int HARMLESS = 0;
        private static final int LARGEST_TABLE =
            (MAX_PITCHES + 1) * (1 << MAX_TRADERS) * (MAX_TRADERS + 1) * (MAX_COVERS + 2);

        private final Market street = new Market();
        private int[] table = new int[1024];
        private int sets = 1;
        private int kinds = 1;
        private int levels = 1;
        // For each trader and start: what the trader is worth there, 0 if it cannot stand there at all.
        private final int[] worths = new int[MAX_TRADERS * MAX_PITCHES];
        private final int[] needs = new int[MAX_TRADERS * MAX_PITCHES];
        // For each trader and start: the kind of neighbour that the pitch behind the block has then.
        private final int[] kindsBehind = new int[MAX_TRADERS * MAX_PITCHES];
        private final int[] kindOf = new int[MAX_TRADERS];
        // For each kind of neighbour a bit for each trader who may not stand beside it.
        private final int[] barred = new int[MAX_TRADERS + 1];

        void plan(Market market) {
            street.copyFrom(market);
            sets = 1 << street.traders;
            sortKinds();
            measureBlocks();
            makeRoom((street.pitches + 1) * sets * kinds * levels);
            int end = cell(street.pitches, 0, HARMLESS);
            for (int i = end; i < end + sets * kinds * levels; i++) {
                table[i] = 0;
            }
            for (int pitch = street.pitches - 1; pitch >= 0; pitch--) {
                for (int gone = 0; gone < sets; gone++) {
                    fill(pitch, gone);
                }
            }
        }

        // Traders who clash with the same others are one kind of neighbour; that keeps the table small.
        private void sortKinds() {
            kinds = 1;
            barred[HARMLESS] = 0;
            for (int trader = 0; trader < street.traders; trader++) {
                int foes = foesOf(trader);
                int kind = 0;
                while (kind < kinds && barred[kind] != foes) {
                    kind++;
                }
                if (kind == kinds) {
                    barred[kind] = foes;
                    kinds++;
                }
                kindOf[trader] = kind;
            }
        }

        private int foesOf(int trader) {
            int foes = 0;
            for (int other = 0; other < street.traders; other++) {
                if (other != trader && street.clashesWith(trader, other)) {
                    foes |= 1 << other;
                }
            }
            return foes;
        }

        private void measureBlocks() {
            int mostNeeded = 0;
            for (int trader = 0; trader < street.traders; trader++) {
                int need = 0;
                for (int pitch = 0; pitch < street.pitches; pitch++) {
                    int block = trader * MAX_PITCHES + pitch;
                    boolean possible = street.isInOneRow(trader, pitch) && street.affords(trader, pitch);
                    worths[block] = possible ? street.blockRent(trader, pitch) * INCOME_UNIT + 1 : 0;
                    needs[block] = street.coversFor(trader, pitch);
                    int next = pitch + street.fronts[trader];
                    kindsBehind[block] = kindBeside(trader, next - 1, next);
                    need = Math.max(need, possible ? needs[block] : 0);
                }
                mostNeeded += need;
            }
            // One cover more than there are is asked for too; more than all traders need make no difference.
            levels = Math.min(street.covers + 1, mostNeeded) + 1;
        }

        private void makeRoom(int size) {
            if (table.length < size) {
                // At least twice as much, so that a market that grows often does not fill the room with old tables.
                table = new int[Math.max(size, Math.min(2 * table.length, LARGEST_TABLE))];
            }
        }

        private int cell(int pitch, int gone, int kind) {
            return ((pitch * sets + gone) * kinds + kind) * levels;
        }

        private int level(int covers) {
            return Math.min(covers, levels - 1);
        }

        private boolean canCome(int trader, int pitch, int gone) {
            return (gone >> trader & 1) == 0 && worths[trader * MAX_PITCHES + pitch] > 0;
        }

        private boolean isBarred(int trader, int kind) {
            return (barred[kind] >> trader & 1) != 0;
        }

        private int kindBeside(int trader, int pitch, int next) {
            return street.shareRow(pitch, next) ? kindOf[trader] : HARMLESS;
        }

        private void fill(int pitch, int gone) {
            int here = cell(pitch, gone, HARMLESS);
            int free = cell(pitch + 1, gone, HARMLESS);
            for (int kind = 0; kind < kinds; kind++) {
                for (int level = 0; level < levels; level++) {
                    table[here + kind * levels + level] = table[free + level];
                }
            }
            for (int trader = 0; trader < street.traders; trader++) {
                if (canCome(trader, pitch, gone)) {
                    tryStart(trader, pitch, gone);
                }
            }
        }

        private void tryStart(int trader, int pitch, int gone) {
            int block = trader * MAX_PITCHES + pitch;
            int own = worths[block];
            int need = needs[block];
            int here = cell(pitch, gone, HARMLESS);
            int after = cellAfter(trader, pitch, gone) - need;
            int[] known = table;
            for (int kind = 0; kind < kinds; kind++, here += levels) {
                if (isBarred(trader, kind)) {
                    continue;
                }
                for (int level = need; level < levels; level++) {
                    int worth = own + known[after + level];
                    if (worth > known[here + level]) {
                        known[here + level] = worth;
                    }
                }
            }
        }

        private int cellAfter(int trader, int pitch, int gone) {
            int kind = kindsBehind[trader * MAX_PITCHES + pitch];
            return cell(pitch + street.fronts[trader], gone | 1 << trader, kind);
        }

        // The income of the best placement if the traders of a set stay away.
        int incomeWithout(int gone, int covers) {
            return table[cell(0, gone, HARMLESS) + level(covers)] / INCOME_UNIT;
        }

        // Seats the traders of the best placement in the market that was planned, which is empty.
        void seatBest(Market market) {
            int gone = 0;
            int kind = HARMLESS;
            int level = level(street.covers);
            int end = 0;
            for (int pitch = 0; pitch < street.pitches; pitch++) {
                if (pitch < end) {
                    continue;
                }
                int trader = firstChoice(pitch, gone, kind, level);
                if (trader == NOBODY) {
                    kind = HARMLESS;
                } else {
                    int block = trader * MAX_PITCHES + pitch;
                    market.seat(trader, pitch);
                    gone |= 1 << trader;
                    level -= needs[block];
                    kind = kindsBehind[block];
                    end = pitch + street.fronts[trader];
                }
            }
        }

        private int firstChoice(int pitch, int gone, int kind, int level) {
            int worth = table[cell(pitch, gone, kind) + level];
            for (int trader = 0; trader < street.traders; trader++) {
                int block = trader * MAX_PITCHES + pitch;
                if (canCome(trader, pitch, gone) && !isBarred(trader, kind) && needs[block] <= level
                        && worths[block] + table[cellAfter(trader, pitch, gone) + level - needs[block]] == worth) {
                    return trader;
                }
            }
            return NOBODY;
        }

        // The rent of a pitch with the greatest income. Such a rent is 1, if the pitch stays free, or the most
        // that some trader can pay for it in some block: so only these are looked at. The other planner has
        // planned the street turned around, and knows what the pitches before a block are worth.
        int dearestRent(int pitch, Planner turned) {
            int most = worthAround(pitch, pitch + 1, NOBODY, street.covers, turned) / INCOME_UNIT;
            int answer = 1;
            for (int trader = 0; trader < street.traders; trader++) {
                for (int start = pitch - street.fronts[trader] + 1; start <= pitch; start++) {
                    if (!street.isInOneRow(trader, start)) {
                        continue;
                    }
                    int others = street.blockRent(trader, start) - street.rents[pitch];
                    int rent = Math.min(street.limits[trader] - others, MAX_RENT);
                    int spare = street.covers - street.coversFor(trader, start);
                    if (rent < 1 || spare < 0) {
                        continue;
                    }
                    int end = start + street.fronts[trader];
                    int income = worthAround(start, end, trader, spare, turned) / INCOME_UNIT + others + rent;
                    if (income > most || income == most && rent < answer) {
                        most = income;
                        answer = rent;
                    }
                }
            }
            return answer;
        }

        // What the pitches before start and from end on are worth together, with a trader (or nobody) between
        // them: every way to share the other traders and the spare covers among both sides is tried.
        private int worthAround(int start, int end, int trader, int spare, Planner turned) {
            int busy = trader == NOBODY ? 0 : 1 << trader;
            int leftKind = trader == NOBODY ? HARMLESS : kindBeside(trader, start - 1, start);
            int rightKind = trader == NOBODY ? HARMLESS : kindBeside(trader, end - 1, end);
            int most = 0;
            for (int left = 0; left < sets; left++) {
                if ((left & busy) != 0) {
                    continue;
                }
                int before = turned.cell(street.pitches - start, sets - 1 - left, leftKind);
                int behind = cell(end, left | busy, rightKind);
                for (int covers = 0; covers <= spare; covers++) {
                    int worth = turned.table[before + turned.level(covers)] + table[behind + level(spare - covers)];
                    most = Math.max(most, worth);
                }
            }
            return most;
        }
    }

    // Finds the best insertion of a trader by trying every choice of moved traders and of new starts, but for
    // those that cannot be better than the best one found so far.
    private static final class Insertion {
        private final Market street = new Market();
        final Market found = new Market();
        int mostIncome = -1;
        int fewestMoved = 0;
        private final int[] oldStarts = new int[MAX_TRADERS];
        // The newcomer and, behind it, the traders who move.
        private final int[] walkers = new int[1 + MAX_MOVES];
        // The rent that the walkers from the index on pay together at most, beside those who stay.
        private final int[] hopes = new int[2 + MAX_MOVES];

        void search(Market present, int newcomer, int moves) {
            street.copyFrom(present);
            System.arraycopy(present.starts, 0, oldStarts, 0, MAX_TRADERS);
            mostIncome = -1;
            fewestMoved = 0;
            walkers[0] = newcomer;
            chooseMovers(0, 0, moves);
        }

        // Tries the movers chosen so far, then each choice with one more of the traders from first on.
        private void chooseMovers(int moved, int first, int moves) {
            if (sumHopes(moved)) {
                seatWalkers(0, moved, street.totalRent());
            }
            if (moved >= moves || moved >= MAX_MOVES) {
                return;
            }
            for (int trader = first; trader < street.traders; trader++) {
                if (street.isSeated(trader)) {
                    street.unseat(trader);
                    walkers[moved + 1] = trader;
                    chooseMovers(moved + 1, trader + 1, moves);
                    street.seat(trader, oldStarts[trader]);
                }
            }
        }

        // Answers whether each walker has a possible start beside those who stay.
        private boolean sumHopes(int moved) {
            hopes[moved + 1] = 0;
            for (int i = moved; i >= 0; i--) {
                int dearest = street.dearestStart(walkers[i], oldStarts[walkers[i]]);
                if (dearest == NOWHERE) {
                    return false;
                }
                hopes[i] = hopes[i + 1] + street.blockRent(walkers[i], dearest);
            }
            return true;
        }

        private boolean isHopeless(int moved, int highestIncome) {
            return highestIncome < mostIncome || highestIncome == mostIncome && moved > fewestMoved;
        }

        private void seatWalkers(int next, int moved, int income) {
            if (isHopeless(moved, income + hopes[next])) {
                return;
            }
            if (next > moved || next > MAX_MOVES) {
                consider(moved, income);
                return;
            }
            int trader = walkers[next];
            for (int pitch = 0; pitch < street.pitches; pitch++) {
                if (pitch != oldStarts[trader] && street.seatIfPossible(trader, pitch)) {
                    seatWalkers(next + 1, moved, income + street.blockRent(trader, pitch));
                    street.unseat(trader);
                }
            }
        }

        private void consider(int moved, int income) {
            if (income > mostIncome
                    || income == mostIncome && (moved < fewestMoved
                        || moved == fewestMoved && street.comesBefore(found))) {
                mostIncome = income;
                fewestMoved = moved;
                found.copyFrom(street);
            }
        }
    }
}
