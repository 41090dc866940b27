/** Figures on strike: what can still be said, paid, thrown and heard without them. */
public final class SevenOnStrike {
    public static final int BAD = -1, NO = -2, FULL = -3, NONE = -4;

    private static final String TOLD_AT_FIRST = "x7;f7,6;c5;c10;c27;c50;e56+7*8-17;";
    private static final int FIGURES = 10;
    private static final int MOST_NUMBER = 99999;
    private static final int MOST_WAY = 999;
    private static final int MOST_PAID = 200;
    private static final int MOST_DAY = 9999;
    private static final int MOST_SHOWN = 18;
    private static final int MOST_HEARD = 9999;
    private static final int MOST_COUNTED = 9999;
    private static final int MOST_DRAW = 9999;
    private static final int MOST_DRAWN_DAYS = 50;
    private static final int AS_IT_IS = 1024;

    private final Text text = new Text();
    private final Figures figures = new Figures();
    private final Past past = new Past();
    private final Kept kept = new Kept();
    private final Night night = new Night();
    private final Speech speech = new Speech();
    private final Till till = new Till();
    // The two change places when a text is laid, so that a faulty one leaves what is laid alone.
    private Told laid = new Told();
    private Told draft = new Told();

    public SevenOnStrike() {
        text.copyFrom(TOLD_AT_FIRST);
        layText();
        text.clear();
    }

    // ---- what is told

    public int write(int letter) {
        if (letter < 32 || letter > 126) {
            return BAD;
        }
        return text.append(letter) ? text.length : FULL;
    }

    public int wipe() {
        int was = text.length;
        text.clear();
        return was;
    }

    public int fault() {
        return draft.readFrom(text);
    }

    public int lay() {
        return layText() ? figures.strikers() : NO;
    }

    public int figure(int f, int what) {
        if (!isFigure(f) || !isWithin(what, 0, 1)) {
            return BAD;
        }
        if (what == 0) {
            return figures.isOnStrike(f) ? 1 : 0;
        }
        return figures.standIns[f];
    }

    public int coin(int k) {
        return isWithin(k, 0, laid.coinCount - 1) ? laid.coins[k] : BAD;
    }

    // ---- strikes

    public int strike(int f, int is) {
        if (!isFigure(f) || !isWithin(is, 0, 1)) {
            return BAD;
        }
        if (figures.isOnStrike(f) == (is == 1)) {
            return NO;
        }
        figures.mask ^= 1 << f;
        past.remember(f, Past.STRUCK);
        return figures.strikers();
    }

    public int standIn(int f, int g) {
        if (!isFigure(f) || !isFigure(g)) {
            return BAD;
        }
        int before = figures.standIns[f];
        figures.standIns[f] = g;
        past.remember(f, before);
        return before;
    }

    public int undo() {
        return past.takeBack(figures) ? past.size : NO;
    }

    // ---- numbers

    public int said(int n) {
        if (!isWithin(n, 0, MOST_NUMBER)) {
            return BAD;
        }
        return Numbers.canSay(figures.mask, n) ? 1 : 0;
    }

    public int next(int n) {
        if (!isWithin(n, 0, MOST_NUMBER)) {
            return BAD;
        }
        return Numbers.atRank(figures.mask, Numbers.sayable(figures.mask, n));
    }

    public int rank(int n) {
        return isWithin(n, 0, MOST_NUMBER) ? Numbers.sayable(figures.mask, n) : BAD;
    }

    public int kth(int k) {
        return isWithin(k, 0, MOST_NUMBER) ? Numbers.atRank(figures.mask, k) : BAD;
    }

    public int sum(int what) {
        switch (what) {
            case 0: return laid.sum.comesTo(0, figures.standIns);
            case 1: return laid.sum.comesTo(figures.mask, figures.standIns);
            case 2: return laid.sum.numbers();
            default: return BAD;
        }
    }

    // ---- ways

    public int ways(int n) {
        if (!isWithin(n, 0, MOST_WAY)) {
            return BAD;
        }
        speech.find(n, figures.mask);
        return speech.found;
    }

    public int shortest(int n, int what) {
        if (!isWithin(n, 0, MOST_WAY) || !isWithin(what, 0, 3)) {
            return BAD;
        }
        speech.find(n, figures.mask);
        if (speech.found == 0) {
            return NONE;
        }
        switch (what) {
            case 0: return speech.letters;
            case 1: return speech.kind;
            case 2: return speech.first;
            default: return speech.second;
        }
    }

    public int change(int n) {
        if (!isWithin(n, 0, MOST_PAID)) {
            return BAD;
        }
        till.countFewest(laid, figures.mask);
        return till.isMade(n) ? till.row[n] : NONE;
    }

    public int never() {
        till.countFewest(laid, figures.mask);
        for (int n = MOST_PAID; n >= 1; n--) {
            if (!till.isMade(n)) {
                return n;
            }
        }
        return NONE;
    }

    public int pays(int n) {
        if (!isWithin(n, 0, MOST_PAID)) {
            return BAD;
        }
        till.countWays(laid, figures.mask);
        return till.row[n];
    }

    public int day(int n) {
        if (!isWithin(n, 0, MOST_DAY)) {
            return BAD;
        }
        int working = workingDays();
        if (working <= 0) {
            return NONE;
        }
        int ahead = n % working;
        for (int d = 1; d <= laid.week; d++) {
            if (!figures.isOnStrike(d)) {
                if (ahead == 0) {
                    return d;
                }
                ahead--;
            }
        }
        return NONE;
    }

    public int agree() {
        int working = workingDays();
        if (working <= 0) {
            return NONE;
        }
        for (int weeks = 1; weeks <= working; weeks++) {
            if (laid.week * weeks % working == 0) {
                return laid.week * weeks;
            }
        }
        return NONE;
    }

    // ---- dice, dark

    public int odds(int s, int part) {
        if (!isWithin(s, 0, MOST_SHOWN) || !isWithin(part, 0, 1)) {
            return BAD;
        }
        int shown = 0;
        for (int a = 1; a <= laid.sides; a++) {
            for (int b = 1; b <= laid.sides; b++) {
                if (shownBy(a) + shownBy(b) == s) {
                    shown++;
                }
            }
        }
        return Numbers.lowestTerms(shown, laid.sides * laid.sides, part);
    }

    public int mean(int part) {
        if (!isWithin(part, 0, 1)) {
            return BAD;
        }
        int together = 0;
        for (int side = 1; side <= laid.sides; side++) {
            together += shownBy(side);
        }
        return Numbers.lowestTerms(together, laid.sides, part);
    }

    public int dark(int a, int b) {
        if (!isWithin(a, 0, MOST_HEARD) || !isWithin(b, 0, MOST_HEARD)
                || Numbers.lengthOf(a) != Numbers.lengthOf(b)) {
            return BAD;
        }
        return night.tell(a, b) ? night.size : FULL;
    }

    public int forget() {
        int were = night.size;
        night.size = 0;
        return were;
    }

    public int works() {
        int bits = night.isSo(figures.mask, figures.standIns) ? AS_IT_IS : 0;
        for (int f = 0; f < FIGURES; f++) {
            if (night.isSo(figures.mask & ~(1 << f), figures.standIns)) {
                bits |= 1 << f;
            }
        }
        return bits;
    }

    // ---- costs

    public int costs(int f, int n) {
        if (!isFigure(f) || !isWithin(n, 0, MOST_COUNTED)) {
            return BAD;
        }
        return costOf(f, n);
    }

    public int dearest(int n, int what) {
        if (!isWithin(n, 0, MOST_COUNTED) || !isWithin(what, 0, 1)) {
            return BAD;
        }
        int which = 0;
        int most = costOf(0, n);
        for (int f = 1; f < FIGURES; f++) {
            int cost = costOf(f, n);
            if (cost > most) {
                which = f;
                most = cost;
            }
        }
        return what == 0 ? which : most;
    }

    public int bargain(int f, int g, int n) {
        if (!isFigure(f) || !isFigure(g) || f == g || !isWithin(n, 0, MOST_COUNTED)) {
            return BAD;
        }
        int others = figures.mask & ~(1 << f) & ~(1 << g);
        int firstStrikes = Numbers.sayable(others | (1 << f), n);
        int secondStrikes = Numbers.sayable(others | (1 << g), n);
        return secondStrikes - firstStrikes + 10000;
    }

    public int days(int z, int n, int what) {
        if (!isWithin(z, 0, MOST_DRAW) || !isWithin(n, 1, MOST_DRAWN_DAYS)
                || !isWithin(what, 0, 1)) {
            return BAD;
        }
        int mask = figures.mask;
        int withoutSeven = 0;
        for (int d = 0; d < n; d++) {
            mask ^= 1 << drawnFigure(z, d);
            withoutSeven += (mask >> 7) & 1;
        }
        return what == 0 ? Numbers.sayable(mask, 999) : withoutSeven;
    }

    // ---- kept

    public int keep() {
        return kept.put(figures) ? kept.size : FULL;
    }

    public int back() {
        if (!kept.restore(figures)) {
            return NO;
        }
        past.size = 0;
        return kept.size;
    }

    public int count(int what) {
        switch (what) {
            case 0: return figures.strikers();
            case 1: return laid.coinCount;
            case 2: return laid.sides;
            case 3: return laid.week;
            case 4: return night.size;
            case 5: return past.size;
            case 6: return kept.size;
            case 7: return text.length;
            default: return BAD;
        }
    }

    private static boolean isWithin(int n, int least, int most) {
        return n >= least && n <= most;
    }

    private static boolean isFigure(int f) {
        return isWithin(f, 0, FIGURES - 1);
    }

    private boolean layText() {
        if (draft.readFrom(text) != NONE) {
            return false;
        }
        Told before = laid;
        laid = draft;
        draft = before;
        figures.copyFrom(laid.figures);
        night.size = 0;
        past.size = 0;
        kept.size = 0;
        return true;
    }

    private int workingDays() {
        int working = 0;
        for (int d = 1; d <= laid.week; d++) {
            if (!figures.isOnStrike(d)) {
                working++;
            }
        }
        return working;
    }

    private int shownBy(int side) {
        return figures.isOnStrike(side) ? 0 : side;
    }

    private int costOf(int f, int n) {
        int without = figures.mask & ~(1 << f);
        return Numbers.sayable(without, n) - Numbers.sayable(figures.mask, n);
    }

    private static int drawnFigure(int z, int d) {
        // x goes up to some 79 millions, so that its square needs a long.
        long x = 7919L * z + 6151L * d + 1;
        return (int) (x * x % 65521 / 4 % FIGURES);
    }

    /** The letters that have been written. */
    private static final class Text {
        static final int MOST = 200;

        final byte[] letters = new byte[MOST];
        int length = 0;

        boolean append(int letter) {
            if (length >= MOST) {
                return false;
            }
            letters[length] = (byte) letter;
            length++;
            return true;
        }

        void copyFrom(String told) {
            clear();
            for (int i = 0; i < told.length(); i++) {
                append(told.charAt(i));
            }
        }

        void clear() {
            length = 0;
        }

        /** 0, which no text holds, behind the last letter. */
        int letterAt(int at) {
            return at >= 0 && at < length ? letters[at] : 0;
        }
    }

    /** Who is on strike (a bit for each figure), and who stands in for whom. */
    private static final class Figures {
        int mask = 0;
        final int[] standIns = new int[FIGURES];

        boolean isOnStrike(int f) {
            return ((mask >> f) & 1) == 1;
        }

        int strikers() {
            return Integer.bitCount(mask);
        }

        void copyFrom(Figures other) {
            mask = other.mask;
            System.arraycopy(other.standIns, 0, standIns, 0, FIGURES);
        }

        void clear() {
            mask = 0;
            for (int f = 0; f < FIGURES; f++) {
                standIns[f] = f;
            }
        }

        static int heardAs(int f, int mask, int[] standIns) {
            return ((mask >> f) & 1) == 1 ? standIns[f] : f;
        }
    }

    /** What a text tells, read item by item. */
    private static final class Told {
        static final int MOST_COINS = 6;
        private static final int PLAIN_SIDES = 6;
        private static final int PLAIN_WEEK = 7;

        final Figures figures = new Figures();
        final int[] coins = new int[MOST_COINS];
        int coinCount = 0;
        int sides = PLAIN_SIDES;
        int week = PLAIN_WEEK;
        final Sum sum = new Sum();
        private int at = 0;

        /** Answers the place of the first fault, or NONE. */
        int readFrom(Text text) {
            figures.clear();
            coinCount = 0;
            sides = PLAIN_SIDES;
            week = PLAIN_WEEK;
            sum.length = 0;
            at = 0;
            for (int items = 0; items < Text.MOST && at < text.length; items++) {
                int start = at;
                if (!readItem(text) || text.letterAt(at) != ';') {
                    return start;
                }
                at++;
            }
            return NONE;
        }

        private boolean readItem(Text text) {
            int letter = text.letterAt(at);
            at++;
            switch (letter) {
                case 'x': return readStrike(text);
                case 'f': return readStandIn(text);
                case 'c': return readCoin(text);
                case 'd': return readSides(text);
                case 'w': return readWeek(text);
                case 'e': return readSum(text);
                default: return false;
            }
        }

        private boolean readStrike(Text text) {
            int f = readNumber(text);
            if (!isFigure(f)) {
                return false;
            }
            figures.mask |= 1 << f;
            return true;
        }

        private boolean readStandIn(Text text) {
            int f = readNumber(text);
            if (!isFigure(f) || text.letterAt(at) != ',') {
                return false;
            }
            at++;
            int g = readNumber(text);
            if (!isFigure(g)) {
                return false;
            }
            figures.standIns[f] = g;
            return true;
        }

        private boolean readCoin(Text text) {
            int worth = readNumber(text);
            if (worth < 1 || coinCount >= MOST_COINS || hasCoin(worth)) {
                return false;
            }
            coins[coinCount] = worth;
            coinCount++;
            return true;
        }

        private boolean hasCoin(int worth) {
            for (int k = 0; k < coinCount; k++) {
                if (coins[k] == worth) {
                    return true;
                }
            }
            return false;
        }

        private boolean readSides(Text text) {
            sides = readNumber(text);
            return isWithin(sides, 2, 9);
        }

        private boolean readWeek(Text text) {
            week = readNumber(text);
            return isWithin(week, 1, 9);
        }

        private boolean readSum(Text text) {
            int inNumber = 0;
            sum.length = 0;
            for (int i = 0; i < Sum.MOST; i++) {
                int letter = text.letterAt(at);
                if (isDigit(letter)) {
                    inNumber++;
                    if (inNumber > Sum.MOST_IN_NUMBER) {
                        return false;
                    }
                } else if (Sum.isSign(letter) && inNumber > 0) {
                    inNumber = 0;
                } else {
                    break;
                }
                sum.append(letter);
                at++;
            }
            return inNumber > 0;
        }

        /** Reads one or two figures; answers -1 if there is none. */
        private int readNumber(Text text) {
            int n = -1;
            for (int i = 0; i < 2 && isDigit(text.letterAt(at)); i++) {
                n = Math.max(n, 0) * 10 + text.letterAt(at) - '0';
                at++;
            }
            return n;
        }

        private static boolean isDigit(int letter) {
            return letter >= '0' && letter <= '9';
        }
    }

    /** The sum, kept as its letters: noughts ahead are heard, too. */
    private static final class Sum {
        static final int MOST = 20;
        static final int MOST_IN_NUMBER = 4;
        static final long BOUND = 2000000000L;

        final byte[] letters = new byte[MOST];
        int length = 0;

        void append(int letter) {
            if (length < MOST) {
                letters[length] = (byte) letter;
                length++;
            }
        }

        static boolean isSign(int letter) {
            return letter == '+' || letter == '-' || letter == '*';
        }

        int numbers() {
            int numbers = length > 0 ? 1 : 0;
            for (int i = 0; i < length; i++) {
                if (isSign(letters[i])) {
                    numbers++;
                }
            }
            return numbers;
        }

        int comesTo(int mask, int[] standIns) {
            long total = 0;
            long term = 0;
            long number = 0;
            boolean times = false;
            boolean minus = false;
            for (int i = 0; i <= length; i++) {
                // A sign behind the last number closes it as the signs before close theirs.
                int letter = i < length ? letters[i] : '+';
                if (!isSign(letter)) {
                    number = number * 10 + Figures.heardAs(letter - '0', mask, standIns);
                    continue;
                }
                term = times ? keptWithin(term * number) : number;
                number = 0;
                times = letter == '*';
                if (!times) {
                    total = keptWithin(minus ? total - term : total + term);
                    minus = letter == '-';
                }
            }
            return (int) total;
        }

        private static long keptWithin(long n) {
            return Math.max(-BOUND, Math.min(BOUND, n));
        }
    }

    /** The last changes of figures, the latest on top. */
    private static final class Past {
        static final int MOST = 8;
        static final int STRUCK = -1;

        private final int[] changed = new int[MOST];
        // Who stood in before, or STRUCK where the figure struck or worked again.
        private final int[] before = new int[MOST];
        int size = 0;

        void remember(int f, int was) {
            if (size >= MOST) {
                System.arraycopy(changed, 1, changed, 0, MOST - 1);
                System.arraycopy(before, 1, before, 0, MOST - 1);
                size = MOST - 1;
            }
            changed[size] = f;
            before[size] = was;
            size++;
        }

        boolean takeBack(Figures figures) {
            if (size <= 0) {
                return false;
            }
            size--;
            int f = changed[size];
            if (before[size] == STRUCK) {
                figures.mask ^= 1 << f;
            } else {
                figures.standIns[f] = before[size];
            }
            return true;
        }
    }

    /** Strikes and stand-ins that are kept, the last one on top. */
    private static final class Kept {
        static final int MOST = 2;

        private final Figures[] rows = {new Figures(), new Figures()};
        int size = 0;

        boolean put(Figures figures) {
            if (size >= MOST) {
                return false;
            }
            rows[size].copyFrom(figures);
            size++;
            return true;
        }

        boolean restore(Figures figures) {
            if (size <= 0) {
                return false;
            }
            size--;
            figures.copyFrom(rows[size]);
            return true;
        }
    }

    /** What was heard after dark. */
    private static final class Night {
        static final int MOST = 8;

        private final int[] told = new int[MOST];
        private final int[] heard = new int[MOST];
        int size = 0;

        boolean tell(int a, int b) {
            if (size >= MOST) {
                return false;
            }
            told[size] = a;
            heard[size] = b;
            size++;
            return true;
        }

        /** Whether all would have been heard so if those of the mask were on strike. */
        boolean isSo(int mask, int[] standIns) {
            for (int i = 0; i < size; i++) {
                if (!isHeardAs(told[i], heard[i], mask, standIns)) {
                    return false;
                }
            }
            return true;
        }

        private static boolean isHeardAs(int a, int b, int mask, int[] standIns) {
            int places = Numbers.lengthOf(a);
            int restA = a;
            int restB = b;
            for (int place = 0; place < places; place++) {
                if (Figures.heardAs(restA % 10, mask, standIns) != restB % 10) {
                    return false;
                }
                restA /= 10;
                restB /= 10;
            }
            return true;
        }
    }

    /** The ways to say a number: how many there are, and the shortest. */
    private static final class Speech {
        private static final int ITSELF = 0, PLUS = 1, MINUS = 2, TIMES = 3;

        private final boolean[] canSay = new boolean[MOST_WAY + 1];
        // No strike has this mask: the row is filled at its first use.
        private int rowMask = -1;
        int found = 0;
        int letters = 0;
        int kind = 0;
        int first = 0;
        int second = 0;

        void find(int n, int mask) {
            fillRow(mask);
            found = 0;
            if (canSay[n]) {
                take(ITSELF, n, 0);
            }
            for (int a = 0; a <= n - a; a++) {
                takeIfSaid(PLUS, a, n - a);
            }
            for (int b = 1; n + b <= MOST_WAY; b++) {
                takeIfSaid(MINUS, n + b, b);
            }
            if (n == 0) {
                for (int b = 0; b <= MOST_WAY; b++) {
                    takeIfSaid(TIMES, 0, b);
                }
            }
            for (int a = 1; a * a <= n; a++) {
                if (n % a == 0) {
                    takeIfSaid(TIMES, a, n / a);
                }
            }
        }

        private void fillRow(int mask) {
            if (rowMask == mask) {
                return;
            }
            rowMask = mask;
            for (int n = 0; n <= MOST_WAY; n++) {
                canSay[n] = Numbers.canSay(mask, n);
            }
        }

        private void takeIfSaid(int sign, int a, int b) {
            if (canSay[a] && canSay[b]) {
                take(sign, a, b);
            }
        }

        // Ways come in the order that decides among equals, so only a shorter one is better.
        private void take(int sign, int a, int b) {
            int length = Numbers.lengthOf(a);
            if (sign != ITSELF) {
                length += 1 + Numbers.lengthOf(b);
            }
            if (found == 0 || length < letters) {
                letters = length;
                kind = sign;
                first = a;
                second = b;
            }
            found++;
        }
    }

    /** Sums of 0 to 200 paid with the coins that can be named. */
    private static final class Till {
        private static final int NOT_MADE = MOST_PAID + 1;

        final int[] row = new int[MOST_PAID + 1];

        void countFewest(Told told, int mask) {
            startWith(0, NOT_MADE);
            for (int k = 0; k < told.coinCount; k++) {
                int worth = told.coins[k];
                if (Numbers.canSay(mask, worth)) {
                    for (int n = worth; n <= MOST_PAID; n++) {
                        row[n] = Math.min(row[n], row[n - worth] + 1);
                    }
                }
            }
        }

        boolean isMade(int n) {
            return row[n] < NOT_MADE;
        }

        void countWays(Told told, int mask) {
            startWith(1, 0);
            for (int k = 0; k < told.coinCount; k++) {
                int worth = told.coins[k];
                if (Numbers.canSay(mask, worth)) {
                    for (int n = worth; n <= MOST_PAID; n++) {
                        row[n] += row[n - worth];
                    }
                }
            }
        }

        private void startWith(int ofNought, int ofOthers) {
            row[0] = ofNought;
            for (int n = 1; n <= MOST_PAID; n++) {
                row[n] = ofOthers;
            }
        }
    }

    /** Numbers as they are written, those of the mask being on strike. */
    private static final class Numbers {
        private static final int MOST_PLACES = 5;

        static int lengthOf(int n) {
            if (n < 100) {
                return n < 10 ? 1 : 2;
            }
            if (n < 10000) {
                return n < 1000 ? 3 : 4;
            }
            return MOST_PLACES;
        }

        static boolean canSay(int mask, int n) {
            int rest = n;
            for (int place = 0; place < MOST_PLACES; place++) {
                if (((mask >> (rest % 10)) & 1) == 1) {
                    return false;
                }
                rest /= 10;
                if (rest == 0) {
                    return true;
                }
            }
            return true;
        }

        /** How many of 0 to n can be said. */
        static int sayable(int mask, int n) {
            int working = workingUpTo(mask, 9);
            int nought = workingUpTo(mask, 0);
            int unit = 1;
            for (int place = lengthOf(n); place > 1; place--) {
                unit *= 10;
            }
            int upTo = workingUpTo(mask, n / unit);
            for (unit /= 10; unit > 0; unit /= 10) {
                int head = n / unit / 10;
                int headSaid = canSay(mask, head) ? 1 : 0;
                // A nought ahead is not written, so it is no head of a longer number.
                int lesserHeads = upTo - headSaid - nought;
                upTo = working + lesserHeads * working
                        + headSaid * workingUpTo(mask, n / unit % 10);
            }
            return upTo;
        }

        private static int workingUpTo(int mask, int f) {
            return Integer.bitCount(~mask & ((2 << f) - 1));
        }

        /** The number of which k are less that can be said, or NONE. */
        static int atRank(int mask, int k) {
            int n = 0;
            for (int step = 65536; step > 0; step /= 2) {
                int last = n + step - 1;
                if (last <= MOST_NUMBER && sayable(mask, last) <= k) {
                    n += step;
                }
            }
            return n <= MOST_NUMBER ? n : NONE;
        }

        static int lowestTerms(int above, int below, int part) {
            int term = part == 0 ? above : below;
            for (int d = below; d > 1; d--) {
                if (above % d == 0 && below % d == 0) {
                    return term / d;
                }
            }
            return term;
        }
    }
}
