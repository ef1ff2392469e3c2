/** A court at which news goes up to the king only by those who doubt it. */
public final class DoubtCourt {
    public static final int BAD = -1, NO = -2, FULL = -3, NONE = -4;

    private static final int PLAIN = 0, HOPEFUL = 1, AUNT = 3;
    private static final int KNOWN = 9;
    private static final int NOBODY_TOLD = 9;
    private static final int MOST_COURTIERS = 7, MOST_NEWS = 6, MOST_LETTERS = 200;
    private static final int LEAST_LETTER = 32, GREATEST_LETTER = 126;
    private static final int MOST_BELIEF = 9, MOST_DOUBT = 4;
    private static final int MOST_DAYS = 999, MOST_DAYS_AT_ONCE = 24, MOST_DAYS_BEHIND = 40;
    private static final int MOST_DAYS_TO_COME = 60, MOST_DAYS_BEST = 20;
    private static final int MOST_DAYS_OF_TONGUES = 8, TENTHS = 10;
    private static final int MOST_DAYS_OF_REIGN = 60, MOST_REIGN = 9999;
    private static final int MOST_SEEN = 6, MOST_DAYS_SEEN = 20;
    private static final int MOST_UNDONE = 8, MOST_KEPT = 2;
    private static final int SETS = 1 << MOST_COURTIERS;
    private static final String FIRST_TEXT =
            "c0,9;c1,0;c2,1;c0,1;c3,2;c1,3;n5,036214;n3,550000;n4,909090;n5,444444;";

    private final Text text = new Text();
    private final Court now = new Court();
    private final Court trial = new Court();
    private final Shelf undone = new Shelf(MOST_UNDONE);
    private final Shelf kept = new Shelf(MOST_KEPT);
    private final Sightings seen = new Sightings();
    private final Offices given = new Offices();
    private final Shelf branches = new Shelf(MOST_DAYS_OF_TONGUES + 1);

    public DoubtCourt() {
        for (int i = 0; i < FIRST_TEXT.length(); i++) {
            text.append(FIRST_TEXT.charAt(i));
        }
        text.readInto(now);
        text.clear();
    }

    // ---- courts

    public int write(int letter) {
        if (!isIn(letter, LEAST_LETTER, GREATEST_LETTER)) {
            return BAD;
        }
        if (text.length >= MOST_LETTERS) {
            return FULL;
        }
        text.append((char) letter);
        return text.length;
    }

    public int wipe() {
        int was = text.length;
        text.clear();
        return was;
    }

    public int fault() {
        return text.readInto(trial);
    }

    public int lay() {
        if (text.readInto(trial) != NONE || trial.courtiers < 1 || trial.newsTold < 1) {
            return NO;
        }
        now.copyFrom(trial);
        undone.clear();
        kept.clear();
        seen.clear();
        return now.courtiers;
    }

    public int courtier(int c, int what) {
        if (!now.isCourtier(c)) {
            return BAD;
        }
        switch (what) {
            case 0: return of(now.kind, c);
            case 1: return of(now.heeded, c);
            case 2: return of(now.place, c);
            case 3: return now.newsHeld(c);
            case 4: return now.newsDoubted(c);
            default: return BAD;
        }
    }

    public int news(int n, int what) {
        if (!now.isNews(n) || !isIn(what, 0, 1)) {
            return BAD;
        }
        return what == 0 ? of(now.holder, n) : now.doubters(n);
    }

    public int belief(int c, int n) {
        if (!now.isCourtier(c) || !now.isNews(n)) {
            return BAD;
        }
        return now.believes(c, n);
    }

    // ---- acts

    public int pass(int n) {
        if (!isIn(n, 1, MOST_DAYS_AT_ONCE)) {
            return BAD;
        }
        if (now.days + n > MOST_DAYS) {
            return NO;
        }
        undone.push(now);
        for (int day = 0; day < n; day++) {
            now.live();
        }
        return now.knownInAll();
    }

    public int prove(int c, int n, int v) {
        if (!now.isCourtier(c) || !now.isNews(n) || !isIn(v, -MOST_BELIEF, MOST_BELIEF)) {
            return BAD;
        }
        int then = cutBelief(now.believes(c, n) + v);
        if (then == now.believes(c, n)) {
            return NO;
        }
        undone.push(now);
        now.setBelief(c, n, then);
        return then;
    }

    public int hand(int n, int c) {
        if (!now.isNews(n) || !now.isCourtier(c)) {
            return BAD;
        }
        int was = of(now.holder, n);
        if (was == KNOWN || was == c) {
            return NO;
        }
        undone.push(now);
        put(now.holder, n, c);
        return was;
    }

    public int swap(int c, int d) {
        if (!now.isCourtier(c) || !now.isCourtier(d) || c == d) {
            return BAD;
        }
        undone.push(now);
        now.changePlaces(c, d);
        return of(now.place, c);
    }

    public int undo() {
        return undone.pullInto(now) ? undone.used : NO;
    }

    // ---- what comes, what is best

    public int behind(int days, int n, int c) {
        if (!isIn(days, 0, MOST_DAYS_BEHIND) || !now.isNews(n) || c != -1 && !now.isCourtier(c)) {
            return BAD;
        }
        trial.copyFrom(now);
        trial.liveFor(n, days);
        return c == -1 ? of(trial.holder, n) : trial.believes(c, n);
    }

    public int comes(int n) {
        if (!now.isNews(n)) {
            return BAD;
        }
        trial.copyFrom(now);
        return trial.untilKnown(n, MOST_DAYS_TO_COME);
    }

    public int first() {
        int best = NONE;
        int limit = MOST_DAYS_TO_COME;
        trial.copyFrom(now);
        for (int n = 0; n < now.newsTold; n++) {
            int days = now.isKnown(n) ? NONE : trial.untilKnown(n, limit);
            if (days != NONE) {
                best = n;
                limit = days - 1;
            }
        }
        return best;
    }

    public int hush(int n, int days, int what) {
        return convinced(n, days, what, MOST_BELIEF);
    }

    public int loose(int n, int days, int what) {
        return convinced(n, days, what, 0);
    }

    public int sooner(int n, int what) {
        if (!now.isNews(n) || !isIn(what, 0, 1)) {
            return BAD;
        }
        if (now.isKnown(n)) {
            return NO;
        }
        int found = soonestSwap(n);
        if (found == NONE) {
            return NONE;
        }
        return what == 0 ? found % 100 : found / 100;
    }

    public int offices(int n) {
        if (n != -1 && !now.isNews(n)) {
            return BAD;
        }
        given.weigh(now);
        return n == -1 ? given.mostFrom(0, 0) : given.receiver(now, n);
    }

    public int mute() {
        int bits = 0;
        for (int n = 0; n < now.newsTold; n++) {
            if (!now.isKnown(n) && now.doubters(n) == 0) {
                bits |= 1 << n;
            }
        }
        return bits;
    }

    // ---- what was seen

    public int see(int c, int days) {
        if (c != KNOWN && !now.isCourtier(c) || !isIn(days, 0, MOST_DAYS_SEEN)) {
            return BAD;
        }
        if (seen.used >= MOST_SEEN) {
            return FULL;
        }
        seen.add(c, days);
        return seen.used;
    }

    public int forget() {
        int were = seen.used;
        seen.clear();
        return were;
    }

    public int which() {
        int bits = 0;
        trial.copyFrom(now);
        for (int n = 0; n < now.newsTold; n++) {
            if (seen.wouldBeSo(trial, n)) {
                bits |= 1 << n;
            }
        }
        return bits;
    }

    public int kinds(int c, int n) {
        if (!now.isCourtier(c) || !now.isNews(n)) {
            return BAD;
        }
        int bits = 0;
        for (int kind = PLAIN; kind <= AUNT; kind++) {
            trial.copyFrom(now);
            put(trial.kind, c, kind);
            if (seen.wouldBeSo(trial, n)) {
                bits |= 1 << kind;
            }
        }
        return bits;
    }

    // ---- tongues, reigns

    public int tongues(int n, int days, int x, int part) {
        if (!now.isNews(n) || !isIn(days, 0, MOST_DAYS_OF_TONGUES)
                || !isIn(x, 0, TENTHS) || !isIn(part, 0, 1)) {
            return BAD;
        }
        branches.clear();
        branches.push(now);
        int above = chances(branches, n, days, x);
        int below = 1;
        for (int day = 0; day < days; day++) {
            below *= TENTHS;
        }
        int common = commonDivisor(above, below);
        return (part == 0 ? above : below) / (common < 1 ? 1 : common);
    }

    public int reign(int z, int n, int what) {
        if (!isIn(z, 0, MOST_REIGN) || !isIn(n, 1, MOST_DAYS_OF_REIGN) || !isIn(what, 0, 1)) {
            return BAD;
        }
        trial.copyFrom(now);
        for (int k = 0; k < n; k++) {
            trial.obey(draw(z, k));
            trial.live();
        }
        return what == 0 ? trial.knownInAll() : trial.beliefsInAll();
    }

    public int keep() {
        if (kept.used >= MOST_KEPT) {
            return FULL;
        }
        kept.push(now);
        return kept.used;
    }

    public int back() {
        if (!kept.pullInto(now)) {
            return NO;
        }
        undone.clear();
        return kept.used;
    }

    public int count(int what) {
        switch (what) {
            case 0: return now.courtiers;
            case 1: return now.newsTold;
            case 2: return now.days;
            case 3: return now.knownInAll();
            case 4: return now.beliefsInAll();
            case 5: return seen.used;
            case 6: return undone.used;
            case 7: return kept.used;
            case 8: return text.length;
            default: return BAD;
        }
    }

    // ---- behind the face

    /** HUSH where they are made to believe, LOOSE where they are made to doubt. */
    private int convinced(int n, int days, int what, int belief) {
        if (!now.isNews(n) || !isIn(days, 1, MOST_DAYS_BEST) || !isIn(what, 0, 1)) {
            return BAD;
        }
        if (now.isKnown(n)) {
            return NO;
        }
        boolean knownWanted = belief == 0;
        int best = NONE;
        int fewest = MOST_COURTIERS + 1;
        for (int set = 0; set < 1 << now.courtiers; set++) {
            int size = Integer.bitCount(set);
            if (size < fewest && isKnownIfConvinced(n, days, set, belief) == knownWanted) {
                best = set;
                fewest = size;
            }
        }
        return what == 0 && best != NONE ? fewest : best;
    }

    private boolean isKnownIfConvinced(int n, int days, int set, int belief) {
        trial.copyFrom(now);
        for (int c = 0; c < now.courtiers; c++) {
            if (hasBit(set, c)) {
                trial.setBelief(c, n, belief);
            }
        }
        trial.liveFor(n, days);
        return trial.isKnown(n);
    }

    /** Two answers in one number: 100 times the days, and the pair. */
    private int soonestSwap(int n) {
        trial.copyFrom(now);
        int asItIs = trial.untilKnown(n, MOST_DAYS_TO_COME);
        int limit = asItIs == NONE ? MOST_DAYS_TO_COME : asItIs - 1;
        int best = NONE;
        for (int c = 0; c < now.courtiers; c++) {
            for (int d = c + 1; d < now.courtiers; d++) {
                trial.copyFrom(now);
                trial.changePlaces(c, d);
                int days = trial.untilKnown(n, limit);
                if (days != NONE) {
                    best = 100 * days + 10 * c + d;
                    limit = days - 1;
                }
            }
        }
        return best;
    }

    /**
     * By how many of ten to the power of the days that are left news n is known, from the last court
     * of the branches on. The branches hold one court for each day gone, so that none is made anew.
     */
    private static int chances(Shelf branches, int n, int daysLeft, int x) {
        Court from = branches.last();
        if (from == null || daysLeft < 1 || daysLeft > MOST_DAYS_OF_TONGUES) {
            return from != null && from.isKnown(n) ? 1 : 0;
        }
        int sum = 0;
        for (int slips = 0; slips <= 1; slips++) {
            int weight = slips == 1 ? x : TENTHS - x;
            branches.push(from);
            Court branch = branches.last();
            if (branch != null && weight > 0) {
                if (slips == 1) {
                    branch.slipLowest();
                }
                branch.live();
                sum += weight * chances(branches, n, daysLeft - 1, x);
            }
            branches.drop();
        }
        return sum;
    }

    private static int draw(int z, int k) {
        long x = 7919L * z + 6151L * k + 1;
        return (int) (x * x % 65521);
    }

    private static int commonDivisor(int a, int b) {
        // an int takes some forty-six steps at most
        for (int step = 0; step < 100 && b > 0; step++) {
            int rest = a % b;
            a = b;
            b = rest;
        }
        return a;
    }

    private static int remainder(int number, int divisor) {
        return divisor < 1 ? 0 : number % divisor;
    }

    private static boolean isIn(int number, int least, int greatest) {
        return number >= least && number <= greatest;
    }

    private static boolean hasBit(int bits, int place) {
        return place >= 0 && (bits >> place & 1) != 0;
    }

    private static int cutBelief(int belief) {
        return Math.max(0, Math.min(MOST_BELIEF, belief));
    }

    // every look into a row goes through these two, so that no index is used untested
    private static int of(int[] row, int i) {
        return i >= 0 && i < row.length ? row[i] : 0;
    }

    private static void put(int[] row, int i, int value) {
        if (i >= 0 && i < row.length) {
            row[i] = value;
        }
    }

    /** The courtiers, the news and how things stand with them. */
    private static final class Court {
        private final int[] kind = new int[MOST_COURTIERS];
        private final int[] heeded = new int[MOST_COURTIERS];
        private final int[] place = new int[MOST_COURTIERS];
        // who has each place: always the other way round of the row above
        private final int[] sitting = new int[MOST_COURTIERS];
        private final int[] holder = new int[MOST_NEWS];
        private final int[] believed = new int[MOST_NEWS * MOST_COURTIERS];
        private int courtiers;
        private int newsTold;
        private int days;

        void clear() {
            for (int i = 0; i < believed.length; i++) {
                believed[i] = 0;
            }
            courtiers = 0;
            newsTold = 0;
            days = 0;
        }

        void copyFrom(Court other) {
            System.arraycopy(other.kind, 0, kind, 0, MOST_COURTIERS);
            System.arraycopy(other.heeded, 0, heeded, 0, MOST_COURTIERS);
            System.arraycopy(other.place, 0, place, 0, MOST_COURTIERS);
            System.arraycopy(other.sitting, 0, sitting, 0, MOST_COURTIERS);
            System.arraycopy(other.holder, 0, holder, 0, MOST_NEWS);
            System.arraycopy(other.believed, 0, believed, 0, MOST_NEWS * MOST_COURTIERS);
            courtiers = other.courtiers;
            newsTold = other.newsTold;
            days = other.days;
        }

        boolean addCourtier(int ofKind, int heeds) {
            if (courtiers >= MOST_COURTIERS) {
                return false;
            }
            put(kind, courtiers, ofKind);
            put(heeded, courtiers, heeds);
            put(place, courtiers, courtiers);
            put(sitting, courtiers, courtiers);
            courtiers++;
            return true;
        }

        boolean addNews(int c) {
            if (newsTold >= MOST_NEWS || !isCourtier(c)) {
                return false;
            }
            put(holder, newsTold, c);
            newsTold++;
            return true;
        }

        /** Whom one heeds may be told behind it: only at the end is it clear who is nobody. */
        void settleHeeds() {
            for (int c = 0; c < courtiers; c++) {
                int heeds = of(heeded, c);
                if (heeds == c || !isCourtier(heeds)) {
                    put(heeded, c, NONE);
                }
            }
        }

        boolean isCourtier(int c) {
            return c >= 0 && c < courtiers;
        }

        boolean isNews(int n) {
            return n >= 0 && n < newsTold;
        }

        boolean isKnown(int n) {
            return of(holder, n) == KNOWN;
        }

        int believes(int c, int n) {
            return of(believed, n * MOST_COURTIERS + c);
        }

        void setBelief(int c, int n, int belief) {
            put(believed, n * MOST_COURTIERS + c, belief);
        }

        int doubters(int n) {
            int bits = 0;
            for (int c = 0; c < courtiers; c++) {
                if (believes(c, n) <= MOST_DOUBT) {
                    bits |= 1 << c;
                }
            }
            return bits;
        }

        int newsDoubted(int c) {
            int bits = 0;
            for (int n = 0; n < newsTold; n++) {
                if (believes(c, n) <= MOST_DOUBT) {
                    bits |= 1 << n;
                }
            }
            return bits;
        }

        int newsHeld(int c) {
            int bits = 0;
            for (int n = 0; n < newsTold; n++) {
                if (of(holder, n) == c) {
                    bits |= 1 << n;
                }
            }
            return bits;
        }

        int knownInAll() {
            int sum = 0;
            for (int n = 0; n < newsTold; n++) {
                sum += isKnown(n) ? 1 : 0;
            }
            return sum;
        }

        int beliefsInAll() {
            int sum = 0;
            for (int n = 0; n < newsTold; n++) {
                for (int c = 0; c < courtiers; c++) {
                    sum += believes(c, n);
                }
            }
            return sum;
        }

        void changePlaces(int c, int d) {
            int was = of(place, c);
            put(place, c, of(place, d));
            put(place, d, was);
            put(sitting, of(place, c), c);
            put(sitting, was, d);
        }

        /** No news looks at another, so each can live its day for itself. */
        void live() {
            for (int n = 0; n < newsTold; n++) {
                liveFor(n, 1);
            }
            days++;
        }

        /** What a loose tongue does: the lowest news that is not known goes up, whoever believes it. */
        void slipLowest() {
            for (int n = 0; n < newsTold; n++) {
                if (!isKnown(n)) {
                    goUp(n);
                    return;
                }
            }
        }

        void liveFor(int n, int daysToLive) {
            for (int day = 0; day < daysToLive && !isKnown(n); day++) {
                int doubters = doubters(n);
                move(n, doubters);
                spread(n, doubters);
            }
        }

        int untilKnown(int n, int most) {
            for (int day = 0; day <= most; day++) {
                if (isKnown(n)) {
                    return day;
                }
                liveFor(n, 1);
            }
            return NONE;
        }

        void obey(int draw) {
            int c = remainder(draw / 8, courtiers);
            int n = remainder(draw / 64, newsTold);
            switch (draw % 8) {
                case 0:
                    setBelief(c, n, cutBelief(believes(c, n) + 3));
                    break;
                case 1:
                    setBelief(c, n, cutBelief(believes(c, n) - 3));
                    break;
                case 2:
                    if (!isKnown(n)) {
                        put(holder, n, c);
                    }
                    break;
                case 3:
                    changePlaces(c, remainder(draw / 64, courtiers));
                    break;
                default:
                    break;
            }
        }

        private void move(int n, int doubters) {
            if (hasBit(doubters, of(holder, n))) {
                goUp(n);
            } else if (doubters != 0) {
                put(holder, n, nearest(doubters, of(place, of(holder, n))));
            }
        }

        private void goUp(int n) {
            int from = of(place, of(holder, n));
            put(holder, n, from == 0 ? KNOWN : of(sitting, from - 1));
        }

        private int nearest(int doubters, int from) {
            int best = 0;
            int least = 2 * MOST_COURTIERS;
            // place by place: of two as near the lower place is met first
            for (int there = 0; there < courtiers; there++) {
                int c = of(sitting, there);
                int way = Math.abs(there - from);
                if (hasBit(doubters, c) && way < least) {
                    best = c;
                    least = way;
                }
            }
            return best;
        }

        /** Only the doubters ahead of the change are asked, so beliefs can change in place. */
        private void spread(int n, int doubters) {
            if (isKnown(n)) {
                return;
            }
            for (int c = 0; c < courtiers; c++) {
                setBelief(c, n, cutBelief(believes(c, n) + change(c, n, doubters)));
            }
        }

        private int change(int c, int n, int doubters) {
            int heeds = of(heeded, c);
            boolean heedsBeliever = heeds != NONE && !hasBit(doubters, heeds);
            switch (of(kind, c)) {
                case PLAIN: return heedsBeliever ? 1 : 0;
                case HOPEFUL: return heedsBeliever ? 2 : 0;
                case AUNT: return of(holder, n) == c ? 0 : -1;
                default: return 0; // a dry one
            }
        }
    }

    /** THE TEXT, and the reading of it item by item. */
    private static final class Text {
        private final char[] letters = new char[MOST_LETTERS];
        private int length;
        private int cursor;

        void append(char letter) {
            if (length >= 0 && length < letters.length) {
                letters[length] = letter;
                length++;
            }
        }

        void clear() {
            length = 0;
        }

        /** The FAULT; without one the court stands as told. */
        int readInto(Court court) {
            court.clear();
            cursor = 0;
            for (int item = 0; item < MOST_LETTERS && cursor < length; item++) {
                int start = cursor;
                if (!readItem(court)) {
                    return start;
                }
            }
            court.settleHeeds();
            return NONE;
        }

        private boolean readItem(Court court) {
            if (takes('c')) {
                return readCourtier(court);
            }
            return takes('n') && readNews(court);
        }

        private boolean readCourtier(Court court) {
            int kind = number();
            if (!isIn(kind, PLAIN, AUNT) || !takes(',')) {
                return false;
            }
            int heeds = number();
            boolean isTold = isIn(heeds, 0, MOST_COURTIERS - 1) || heeds == NOBODY_TOLD;
            return isTold && takes(';') && court.addCourtier(kind, heeds);
        }

        private boolean readNews(Court court) {
            int place = number();
            int n = court.newsTold;
            if (!takes(',') || !court.addNews(place)) {
                return false;
            }
            for (int c = 0; c < court.courtiers; c++) {
                int belief = figure();
                if (belief == NONE) {
                    return false;
                }
                court.setBelief(c, n, belief);
            }
            return takes(';');
        }

        /** One figure or two; NONE if there is no figure. */
        private int number() {
            int tens = figure();
            if (tens == NONE) {
                return NONE;
            }
            int ones = figure();
            return ones == NONE ? tens : 10 * tens + ones;
        }

        private int figure() {
            char letter = next();
            if (letter < '0' || letter > '9') {
                return NONE;
            }
            cursor++;
            return letter - '0';
        }

        private boolean takes(char wanted) {
            if (next() != wanted) {
                return false;
            }
            cursor++;
            return true;
        }

        /** Behind the last letter it is 0, which can't be written. */
        private char next() {
            return cursor >= 0 && cursor < length && cursor < letters.length ? letters[cursor] : 0;
        }
    }

    /** Courts laid by, the last on top; a full shelf loses its oldest. */
    private static final class Shelf {
        private final Court[] rows;
        private int used;

        Shelf(int most) {
            rows = new Court[most < 0 ? 0 : most];
            for (int i = 0; i < rows.length; i++) {
                rows[i] = new Court();
            }
        }

        void clear() {
            used = 0;
        }

        void push(Court court) {
            if (used >= rows.length) {
                loseOldest();
            }
            used++;
            Court row = last();
            if (row != null) {
                row.copyFrom(court);
            }
        }

        boolean pullInto(Court court) {
            Court row = last();
            if (row == null) {
                return false;
            }
            court.copyFrom(row);
            used--;
            return true;
        }

        void drop() {
            used = Math.max(0, used - 1);
        }

        Court last() {
            int i = used - 1;
            return i >= 0 && i < rows.length ? rows[i] : null;
        }

        private void loseOldest() {
            if (rows.length < 1 || used < 1) {
                return;
            }
            Court oldest = rows[0];
            for (int i = 1; i < rows.length; i++) {
                rows[i - 1] = rows[i];
            }
            rows[rows.length - 1] = oldest;
            used--;
        }
    }

    /** At whom the one news was seen, and behind how many days. */
    private static final class Sightings {
        private final int[] who = new int[MOST_SEEN];
        private final int[] when = new int[MOST_SEEN];
        private int used;

        void clear() {
            used = 0;
        }

        void add(int c, int days) {
            put(who, used, c);
            put(when, used, days);
            used++;
        }

        /** Lives the days of news n in the court given. */
        boolean wouldBeSo(Court court, int n) {
            for (int day = 0; day <= MOST_DAYS_SEEN; day++) {
                if (!agrees(day, of(court.holder, n))) {
                    return false;
                }
                court.liveFor(n, 1);
            }
            return true;
        }

        private boolean agrees(int day, int holder) {
            for (int i = 0; i < used; i++) {
                if (of(when, i) == day && of(who, i) != holder) {
                    return false;
                }
            }
            return true;
        }
    }

    /** How news can be given to those who doubt it, one each. */
    private static final class Offices {
        // for each news and set of courtiers taken: how many of it and the later ones can be given
        private final int[] most = new int[(MOST_NEWS + 1) * SETS];

        void weigh(Court court) {
            for (int taken = 0; taken < SETS; taken++) {
                put(most, court.newsTold * SETS + taken, 0);
            }
            for (int n = court.newsTold - 1; n >= 0; n--) {
                int takers = takers(court, n);
                for (int taken = 0; taken < SETS; taken++) {
                    put(most, n * SETS + taken, best(n, taken, takers));
                }
            }
        }

        int mostFrom(int n, int taken) {
            return of(most, n * SETS + taken);
        }

        int receiver(Court court, int wanted) {
            int taken = 0;
            int c = NONE;
            for (int n = 0; n <= wanted && n < court.newsTold; n++) {
                c = choice(n, taken, takers(court, n));
                if (c != NONE) {
                    taken |= 1 << c;
                }
            }
            return c;
        }

        private int takers(Court court, int n) {
            return court.isKnown(n) ? 0 : court.doubters(n);
        }

        private int best(int n, int taken, int takers) {
            int best = mostFrom(n + 1, taken);
            for (int c = 0; c < MOST_COURTIERS; c++) {
                if (hasBit(takers & ~taken, c)) {
                    best = Math.max(best, 1 + mostFrom(n + 1, taken | 1 << c));
                }
            }
            return best;
        }

        private int choice(int n, int taken, int takers) {
            for (int c = 0; c < MOST_COURTIERS; c++) {
                if (hasBit(takers & ~taken, c)
                        && 1 + mostFrom(n + 1, taken | 1 << c) == mostFrom(n, taken)) {
                    return c;
                }
            }
            return NONE;
        }
    }
}
