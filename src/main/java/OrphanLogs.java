/**
 * Clerks who write letters and keep a diary that is written late.
 * The numbered promises that this class keeps stand in ../shared/DOC.md.
 */
public final class OrphanLogs {
    public static final int NONE = -1, BAD = -2, NO = -3, FULL = -4;

    private static final int LEAST_CLERKS = 2, MOST_CLERKS = 5, CLERKS_AT_FIRST = 3;
    private static final int MOST_PAGES = 24, MOST_LETTERS = 40, MOST_SAYINGS = 30;
    private static final int MOST_BYTES = 120, LAST_BYTE = 127;
    /** The shortest order has two bytes. */
    private static final int MOST_ORDERS = MOST_BYTES / 2;
    private static final int LAST_TOLD = 999, LAST_ASKED = 99, LAST_ORDERED_LETTER = 99;
    /** Nobody loses any more once a clerk is in this life, so this many lives can end. */
    private static final int LAST_LIFE = 60;
    private static final int LAST_SEED = 999999, MOST_DRAWN = 60, DRAWN_WRITES = 2;
    private static final int SUM_BOUND = 1000003;
    /** Far above what a loss needs: each of at most 120 pages torn out makes at most 5 steps. */
    private static final int MOST_TEARING = 10000;
    private static final int MOST_FIGURES = 3, FAULT_BASE = -10;
    private static final int HELD = 0, RELEASED = 1, LOST = 2;
    private static final int OF_KINDS = 8, PAGE_KINDS = 4, LETTER_KINDS = 4, SAYING_KINDS = 4;
    private static final int WOULD_KINDS = 3, WORST_KINDS = 2, TOLD_KINDS = 10;

    private final Office office;
    private final Text text;
    private final Reader reader;
    private final Tally tally;

    public OrphanLogs() {
        office = new Office();
        text = new Text();
        reader = new Reader();
        tally = new Tally();
    }

    // ---- clerks

    public int clerks(int v) {
        if (!within(v, LEAST_CLERKS, MOST_CLERKS)) return tally.counted(BAD);
        int before = office.n;
        office.begin(v);
        return before;
    }

    public int work(int c, int x) {
        boolean good = office.hasClerk(c) && within(x, 0, LAST_TOLD);
        return tally.counted(good ? office.addWork(c, x) : BAD);
    }

    public int send(int c, int d) {
        boolean good = office.hasClerk(c) && office.hasClerk(d) && c != d;
        return tally.counted(good ? office.sendLetter(c, d) : BAD);
    }

    public int get(int d, int k) {
        boolean good = office.hasClerk(d) && k >= 0;
        return tally.counted(good ? office.takeLetter(d, k) : BAD);
    }

    public int writes(int c, int m) {
        boolean good = office.hasClerk(c) && within(m, 1, MOST_PAGES);
        return tally.counted(good ? office.writePages(c, m) : BAD);
    }

    public int loses(int c) {
        return tally.counted(office.hasClerk(c) ? office.lose(c) : BAD);
    }

    public int draw(int seed, int m) {
        boolean good = within(seed, 0, LAST_SEED) && within(m, 1, MOST_DRAWN);
        if (!good) return tally.counted(BAD);
        office.begin(office.n);
        long x = seed;
        int done = 0;
        for (int i = 0; i < m; i++) {
            x = (x * 1103515245L + 12345L) % 2147483648L;
            if (isDone(office.doDrawn(x))) done++;
        }
        return done;
    }

    public int of(int c, int what) {
        boolean good = office.hasClerk(c) && within(what, 0, OF_KINDS - 1);
        return tally.counted(good ? office.tellClerk(c, what) : BAD);
    }

    public int page(int c, int k, int d, int what) {
        boolean good = office.hasClerk(c) && k >= 0 && office.hasClerk(d) && within(what, 0, PAGE_KINDS - 1);
        return tally.counted(good ? office.tellPage(c, k, d, what) : BAD);
    }

    public int dead(int c, int l, int k) {
        boolean good = office.hasClerk(c) && within(l, 0, LAST_ASKED) && within(k, 0, LAST_ASKED);
        if (!good) return tally.counted(BAD);
        return office.clerk(c).isDeadRest(l, k) ? 1 : 0;
    }

    public int end(int c, int l) {
        boolean good = office.hasClerk(c) && within(l, 0, LAST_ASKED);
        return tally.counted(good ? office.clerk(c).endOf(l) : BAD);
    }

    // ---- letters

    public int letter(int d, int k, int what) {
        boolean good = office.hasClerk(d) && k >= 0 && within(what, 0, LETTER_KINDS - 1);
        return tally.counted(good ? office.tellLetter(d, k, what) : BAD);
    }

    public int sweeps() {
        return office.sweepLetters();
    }

    // ---- what is told to the world

    public int says(int c) {
        return tally.counted(office.hasClerk(c) ? office.addSaying(c) : BAD);
    }

    public int release() {
        return office.releaseSafe();
    }

    public int saying(int k, int what) {
        boolean good = k >= 0 && within(what, 0, SAYING_KINDS - 1);
        return tally.counted(good ? office.tellSaying(k, what) : BAD);
    }

    public int released(int k) {
        return tally.counted(k >= 0 ? office.sayings.releasedAt(k) : BAD);
    }

    // ---- cutting, what would be

    public int cuts(int c) {
        return tally.counted(office.hasClerk(c) ? office.cutPages(c) : BAD);
    }

    public int would(int c, int what) {
        boolean good = office.hasClerk(c) && within(what, 0, WOULD_KINDS - 1);
        return tally.counted(good ? office.tellLoss(c, what) : BAD);
    }

    public int worst(int what) {
        if (!within(what, 0, WORST_KINDS - 1)) return tally.counted(BAD);
        int c = office.worstClerk();
        return what == 0 ? c : office.tellLoss(c, 0);
    }

    // ---- texts

    public int type(int c) {
        return tally.counted(within(c, 0, LAST_BYTE) ? text.add(c) : BAD);
    }

    public int clear() {
        return text.empty();
    }

    public int does() {
        int fault = reader.readAll(text, office.n);
        if (fault != NONE) return FAULT_BASE - fault;
        int done = 0;
        for (int i = 0; i < reader.count; i++) {
            int answer = office.follow(at(reader.kinds, i), at(reader.firsts, i), at(reader.seconds, i));
            if (isDone(answer)) done++;
        }
        return done;
    }

    public int told(int what) {
        return tally.counted(within(what, 0, TOLD_KINDS - 1) ? tell(what) : BAD);
    }

    public long digest() {
        long h = 2099;
        for (int what = 0; what < TOLD_KINDS; what++) h = 31 * h + tell(what);
        for (int c = 0; c < office.n; c++) {
            for (int what = 0; what < OF_KINDS; what++) h = 31 * h + office.tellClerk(c, what);
        }
        for (int k = 0; k < office.sayings.count; k++) {
            for (int what = 0; what < SAYING_KINDS; what++) h = 31 * h + office.tellSaying(k, what);
        }
        return h;
    }

    private int tell(int what) {
        switch (what) {
            case 0: return tally.bad;
            case 1: return tally.no;
            case 2: return tally.full;
            case 3: return text.length;
            case 4: return office.n;
            case 5: return office.post.count;
            case 6: return office.sayings.count;
            case 7: return office.sayings.countHeld();
            case 8: return office.sayings.releasedCount;
            default: return office.gone;
        }
    }

    private static boolean within(int v, int least, int most) {
        return v >= least && v <= most;
    }

    /** A letter that is thrown away answers NONE and counts as done; refusals lie below NONE. */
    private static boolean isDone(int answer) {
        return answer >= NONE;
    }

    private static int at(int[] row, int i) {
        return i >= 0 && i < row.length ? row[i] : 0;
    }

    private static void put(int[] row, int i, int v) {
        if (i >= 0 && i < row.length) row[i] = v;
    }

    private static int leftOver(long x, int by) {
        return by > 0 ? (int) (x % by) : 0;
    }

    /** How often calls were refused. */
    private static final class Tally {
        private int bad;
        private int no;
        private int full;

        int counted(int answer) {
            if (answer == BAD) bad++;
            if (answer == NO) no++;
            if (answer == FULL) full++;
            return answer;
        }
    }

    /** Rows of rests: in each, a life and a page of every clerk. */
    private static final class Rests {
        private final int[] lives;
        private final int[] pages;

        Rests(int rows) {
            int room = Math.max(0, Math.min(rows, MOST_LETTERS)) * MOST_CLERKS;
            lives = new int[room];
            pages = new int[room];
        }

        int lifeOf(int row, int c) {
            return at(lives, row * MOST_CLERKS + c);
        }

        int pageOf(int row, int c) {
            return at(pages, row * MOST_CLERKS + c);
        }

        void set(int row, int c, int life, int page) {
            put(lives, row * MOST_CLERKS + c, life);
            put(pages, row * MOST_CLERKS + c, page);
        }

        void copyRow(Rests from, int fromRow, int row) {
            for (int c = 0; c < MOST_CLERKS; c++) set(row, c, from.lifeOf(fromRow, c), from.pageOf(fromRow, c));
        }

        void raise(int row, int c, int life, int page) {
            int oldLife = lifeOf(row, c);
            boolean later = life > oldLife || life == oldLife && page > pageOf(row, c);
            if (later) set(row, c, life, page);
        }
    }

    /** One clerk with his pages; what lies behind now in the rows is void. */
    private static final class Clerk {
        private final int number;
        private int life;
        private int now;
        private int written;
        private int leastKept;
        private final int[] lives = new int[MOST_PAGES];
        private final int[] sums = new int[MOST_PAGES];
        private final Rests rests = new Rests(MOST_PAGES);
        private final int[] ends = new int[LAST_LIFE];

        Clerk(int number) {
            this.number = number;
        }

        void begin() {
            life = 0;
            now = 0;
            written = 0;
            leastKept = 0;
            put(lives, 0, 0);
            put(sums, 0, 0);
            for (int c = 0; c < MOST_CLERKS; c++) rests.set(0, c, 0, 0);
        }

        boolean isFull() {
            return now >= MOST_PAGES - 1;
        }

        int addPage(int told) {
            int next = now + 1;
            long sum = at(sums, now) * 3L + told;
            put(lives, next, life);
            put(sums, next, leftOver(sum, SUM_BOUND));
            rests.copyRow(rests, now, next);
            rests.set(next, number, life, next);
            now = next;
            return next;
        }

        /** His own rest stays: the page he writes now is later than all that a letter knows of him. */
        void restAlsoOn(Rests other, int row) {
            for (int c = 0; c < MOST_CLERKS; c++) {
                if (c != number) rests.raise(now, c, other.lifeOf(row, c), other.pageOf(row, c));
            }
        }

        int writeMore(int m) {
            written = Math.min(now, written + m);
            return written;
        }

        void fallBack(int keep) {
            put(ends, life, keep);
            life++;
            now = keep;
            written = Math.min(written, keep);
        }

        int endOf(int l) {
            return l >= 0 && l < life ? at(ends, l) : NONE;
        }

        boolean isDeadRest(int l, int k) {
            for (int over = Math.max(0, l); over < life; over++) {
                if (at(ends, over) < k) return true;
            }
            return false;
        }

        boolean hasPage(int k) {
            return k >= leastKept && k <= now;
        }

        int sumNow() {
            return at(sums, now);
        }
    }

    /** The letters on their way, in the order in which they were sent. */
    private static final class Post {
        private int count;
        private final int[] senders = new int[MOST_LETTERS];
        private final int[] receivers = new int[MOST_LETTERS];
        private final int[] sums = new int[MOST_LETTERS];
        private final Rests rests = new Rests(MOST_LETTERS);

        void add(Clerk sender, int d) {
            put(senders, count, sender.number);
            put(receivers, count, d);
            put(sums, count, sender.sumNow());
            rests.copyRow(sender.rests, sender.now, count);
            count++;
        }

        void remove(int i) {
            for (int j = i + 1; j < count; j++) {
                put(senders, j - 1, at(senders, j));
                put(receivers, j - 1, at(receivers, j));
                put(sums, j - 1, at(sums, j));
                rests.copyRow(rests, j, j - 1);
            }
            count--;
        }

        /** Where the k-th letter to d lies, or NONE. */
        int find(int d, int k) {
            int seen = 0;
            for (int i = 0; i < count; i++) {
                if (at(receivers, i) != d) continue;
                if (seen == k) return i;
                seen++;
            }
            return NONE;
        }

        int countTo(int d) {
            int found = 0;
            for (int i = 0; i < count; i++) if (at(receivers, i) == d) found++;
            return found;
        }
    }

    /** What was told to the world, in the order in which it was told. */
    private static final class Sayings {
        private int count;
        private int releasedCount;
        private final int[] clerks = new int[MOST_SAYINGS];
        private final int[] pages = new int[MOST_SAYINGS];
        private final int[] states = new int[MOST_SAYINGS];
        private final int[] releasedOnes = new int[MOST_SAYINGS];

        void begin() {
            count = 0;
            releasedCount = 0;
        }

        void add(int c, int page) {
            put(clerks, count, c);
            put(pages, count, page);
            put(states, count, HELD);
            count++;
        }

        boolean isHeld(int k) {
            return k >= 0 && k < count && at(states, k) == HELD;
        }

        int countHeld() {
            int held = 0;
            for (int k = 0; k < count; k++) if (isHeld(k)) held++;
            return held;
        }

        int countHeldBy(int c) {
            int held = 0;
            for (int k = 0; k < count; k++) if (isHeld(k) && at(clerks, k) == c) held++;
            return held;
        }

        /** Held ones of a clerk on pages behind the one he would keep. */
        int countHeldBehind(int c, int keep) {
            int held = 0;
            for (int k = 0; k < count; k++) if (isHeldBehind(k, c, keep)) held++;
            return held;
        }

        void loseBehind(int c, int keep) {
            for (int k = 0; k < count; k++) if (isHeldBehind(k, c, keep)) put(states, k, LOST);
        }

        private boolean isHeldBehind(int k, int c, int keep) {
            return isHeld(k) && at(clerks, k) == c && at(pages, k) > keep;
        }

        /** Whether k, told later than other, is yet released ahead of it. */
        boolean goesAhead(int k, int other) {
            if (at(pages, k) != at(pages, other)) return at(pages, k) < at(pages, other);
            return at(clerks, k) < at(clerks, other);
        }

        void markReleased(int k) {
            put(states, k, RELEASED);
            put(releasedOnes, releasedCount, k);
            releasedCount++;
        }

        int releasedAt(int k) {
            return k >= 0 && k < releasedCount ? at(releasedOnes, k) : NONE;
        }
    }

    /**
     * What a loss takes, found without changing anything. Letters carry all rests of a page on,
     * so what rests on a page rests on all that this page rests on: each clerk falls at most once
     * in one loss, and a rest dies by it just if its page lies behind the last one its clerk keeps.
     */
    private static final class Loss {
        private int loser;
        private int n;
        private final int[] keeps = new int[MOST_CLERKS];
        private final int[] before = new int[MOST_CLERKS];

        void foresee(Office office, int c) {
            loser = c;
            n = office.n;
            for (int e = 0; e < n; e++) {
                put(before, e, office.clerk(e).now);
                put(keeps, e, office.clerk(e).now);
            }
            put(keeps, c, office.clerk(c).written);
            int d = 0;
            for (int step = 0; d < n && step < MOST_TEARING; step++) {
                int first = firstDead(office.clerk(d), at(keeps, d));
                if (first != NONE) put(keeps, d, first - 1);
                // What was torn out may have killed pages of lesser clerks: begin again with the least.
                d = first == NONE ? d + 1 : 0;
            }
        }

        private int firstDead(Clerk clerk, int last) {
            for (int k = clerk.leastKept; k <= last; k++) {
                for (int e = 0; e < n; e++) {
                    if (clerk.rests.pageOf(k, e) > at(keeps, e)) return k;
                }
            }
            return NONE;
        }

        int keptBy(int d) {
            return at(keeps, d);
        }

        /** The loser's life ends even if he has nothing to lose. */
        boolean fells(int d) {
            return d == loser || at(keeps, d) < at(before, d);
        }

        int pagesGone() {
            int gone = 0;
            for (int d = 0; d < n; d++) gone += at(before, d) - at(keeps, d);
            return gone;
        }

        int clerksFelled() {
            int felled = 0;
            for (int d = 0; d < n; d++) if (fells(d)) felled++;
            return felled;
        }
    }

    /** All clerks, the letters among them and what they told the world. */
    private static final class Office {
        private int n;
        private int gone;
        private final Clerk[] clerks = new Clerk[MOST_CLERKS];
        private final Post post = new Post();
        private final Sayings sayings = new Sayings();
        private final Loss loss = new Loss();

        Office() {
            for (int c = 0; c < clerks.length; c++) clerks[c] = new Clerk(c);
            begin(CLERKS_AT_FIRST);
        }

        void begin(int howMany) {
            n = howMany;
            gone = 0;
            post.count = 0;
            sayings.begin();
            for (int c = 0; c < clerks.length; c++) clerks[c].begin();
        }

        boolean hasClerk(int c) {
            return c >= 0 && c < n;
        }

        Clerk clerk(int c) {
            return clerks[c >= 0 && c < clerks.length ? c : 0];
        }

        int addWork(int c, int x) {
            return clerk(c).isFull() ? FULL : clerk(c).addPage(x);
        }

        int sendLetter(int c, int d) {
            if (post.count >= MOST_LETTERS) return FULL;
            post.add(clerk(c), d);
            return post.count;
        }

        int takeLetter(int d, int k) {
            int i = post.find(d, k);
            if (i == NONE) return NO;
            boolean thrownAway = isDeadLetter(i);
            if (!thrownAway && clerk(d).isFull()) return FULL;
            int answer = NONE;
            if (!thrownAway) {
                answer = clerk(d).addPage(at(post.sums, i));
                clerk(d).restAlsoOn(post.rests, i);
            }
            post.remove(i);
            return answer;
        }

        private boolean isDeadLetter(int i) {
            for (int c = 0; c < n; c++) {
                if (clerk(c).isDeadRest(post.rests.lifeOf(i, c), post.rests.pageOf(i, c))) return true;
            }
            return false;
        }

        int sweepLetters() {
            int swept = 0;
            for (int i = post.count - 1; i >= 0; i--) {
                if (isDeadLetter(i)) {
                    post.remove(i);
                    swept++;
                }
            }
            return swept;
        }

        int writePages(int c, int m) {
            return clerk(c).writeMore(m);
        }

        int lose(int c) {
            for (int d = 0; d < n; d++) if (clerk(d).life >= LAST_LIFE) return FULL;
            loss.foresee(this, c);
            for (int d = 0; d < n; d++) {
                if (!loss.fells(d)) continue;
                clerk(d).fallBack(loss.keptBy(d));
                sayings.loseBehind(d, loss.keptBy(d));
            }
            gone += loss.pagesGone();
            return loss.pagesGone();
        }

        int tellLoss(int c, int what) {
            loss.foresee(this, c);
            if (what == 0) return loss.pagesGone();
            if (what == 1) return loss.clerksFelled();
            int lost = 0;
            for (int d = 0; d < n; d++) lost += sayings.countHeldBehind(d, loss.keptBy(d));
            return lost;
        }

        int worstClerk() {
            int worst = 0;
            int most = 0;
            for (int c = 0; c < n; c++) {
                int would = tellLoss(c, 0);
                if (would > most) {
                    worst = c;
                    most = would;
                }
            }
            return worst;
        }

        private boolean isWrittenBelow(int c, int k) {
            for (int d = 0; d < n; d++) {
                if (clerk(c).rests.pageOf(k, d) > clerk(d).written) return false;
            }
            return true;
        }

        private int firmPage(int c) {
            for (int k = clerk(c).now; k > 0; k--) {
                if (isWrittenBelow(c, k)) return k;
            }
            return 0;
        }

        int cutPages(int c) {
            int before = clerk(c).leastKept;
            clerk(c).leastKept = Math.max(before, firmPage(c));
            return clerk(c).leastKept - before;
        }

        private int cutAll() {
            int cut = 0;
            for (int c = 0; c < n; c++) cut += cutPages(c);
            return cut;
        }

        int addSaying(int c) {
            if (sayings.count >= MOST_SAYINGS) return FULL;
            sayings.add(c, clerk(c).now);
            return sayings.countHeld();
        }

        private boolean isSafe(int k) {
            return sayings.isHeld(k) && isWrittenBelow(at(sayings.clerks, k), at(sayings.pages, k));
        }

        int releaseSafe() {
            int done = 0;
            for (int turn = 0; turn < MOST_SAYINGS; turn++) {
                int k = nextSafe();
                if (k == NONE) break;
                sayings.markReleased(k);
                done++;
            }
            return done;
        }

        private int nextSafe() {
            int next = NONE;
            for (int k = 0; k < sayings.count; k++) {
                if (isSafe(k) && (next == NONE || sayings.goesAhead(k, next))) next = k;
            }
            return next;
        }

        int tellClerk(int c, int what) {
            Clerk clerk = clerk(c);
            switch (what) {
                case 0: return clerk.life;
                case 1: return clerk.now;
                case 2: return clerk.written;
                case 3: return firmPage(c);
                case 4: return clerk.leastKept;
                case 5: return clerk.sumNow();
                case 6: return post.countTo(c);
                default: return sayings.countHeldBy(c);
            }
        }

        int tellPage(int c, int k, int d, int what) {
            Clerk clerk = clerk(c);
            if (!clerk.hasPage(k)) return NO;
            switch (what) {
                case 0: return at(clerk.lives, k);
                case 1: return at(clerk.sums, k);
                case 2: return clerk.rests.lifeOf(k, d);
                default: return clerk.rests.pageOf(k, d);
            }
        }

        int tellLetter(int d, int k, int what) {
            int i = post.find(d, k);
            if (i == NONE) return NONE;
            int sender = at(post.senders, i);
            switch (what) {
                case 0: return sender;
                case 1: return at(post.sums, i);
                case 2: return isDeadLetter(i) ? 1 : 0;
                default: return post.rests.pageOf(i, sender);
            }
        }

        int tellSaying(int k, int what) {
            if (k >= sayings.count) return NONE;
            switch (what) {
                case 0: return at(sayings.clerks, k);
                case 1: return at(sayings.pages, k);
                case 2: return at(sayings.states, k);
                default: return isSafe(k) ? 1 : 0;
            }
        }

        int doDrawn(long x) {
            int c = leftOver(x / 65536, n);
            switch (leftOver(x / 1024, 9)) {
                case 0:
                case 1:
                case 2: return addWork(c, leftOver(x / 32768, 1000));
                case 3:
                case 4: return sendLetter(c, leftOver(c + 1, n));
                case 5:
                case 6: return takeLetter(c, 0);
                case 7: return writePages(c, DRAWN_WRITES);
                default: return addSaying(c);
            }
        }

        /** Does one order of the text and answers as its call would. */
        int follow(int kind, int first, int second) {
            switch (kind) {
                case 'w': return addWork(first, second);
                case 's': return sendLetter(first, second);
                case 'g': return takeLetter(first, second);
                case 'l': return writePages(first, MOST_PAGES);
                case 'x': return lose(first);
                case 'o': return addSaying(first);
                case 'r': return releaseSafe();
                default: return cutAll();
            }
        }
    }

    /** The bytes that were typed. */
    private static final class Text {
        private int length;
        private final int[] bytes = new int[MOST_BYTES];

        int add(int c) {
            if (length >= MOST_BYTES) return FULL;
            put(bytes, length, c);
            length++;
            return length;
        }

        int empty() {
            int had = length;
            length = 0;
            return had;
        }

        /** The byte at a place; NONE where the text has ended. */
        int byteAt(int place) {
            return place >= 0 && place < length ? at(bytes, place) : NONE;
        }
    }

    /** Reads a whole text into rows of orders before any of them is done. */
    private static final class Reader {
        private int count;
        private int place;
        private int fault;
        private final int[] kinds = new int[MOST_ORDERS];
        private final int[] firsts = new int[MOST_ORDERS];
        private final int[] seconds = new int[MOST_ORDERS];

        /** The place of the fault, or NONE. */
        int readAll(Text text, int n) {
            count = 0;
            place = 0;
            fault = NONE;
            for (int i = 0; i < MOST_ORDERS; i++) {
                readOrder(text, n);
                skipBlanks(text);
                if (fault != NONE || place >= text.length) break;
            }
            return fault;
        }

        private void readOrder(Text text, int n) {
            skipBlanks(text);
            int kind = text.byteAt(place);
            int numbers = numbersOf(kind);
            if (numbers == NONE) {
                fault = place;
                return;
            }
            place++;
            int first = numbers > 0 ? readNumber(text, n - 1, NONE) : 0;
            int second = numbers > 1 ? readNumber(text, mostSecond(kind, n), kind == 's' ? first : NONE) : 0;
            readSemicolon(text);
            put(kinds, count, kind);
            put(firsts, count, first);
            put(seconds, count, second);
            count++;
        }

        /** How many numbers follow the sign of an order; NONE: it is no such sign. */
        private static int numbersOf(int kind) {
            switch (kind) {
                case 'w':
                case 's':
                case 'g': return 2;
                case 'l':
                case 'x':
                case 'o': return 1;
                case 'r':
                case 'u': return 0;
                default: return NONE;
            }
        }

        private static int mostSecond(int kind, int n) {
            if (kind == 'w') return LAST_TOLD;
            return kind == 'g' ? LAST_ORDERED_LETTER : n - 1;
        }

        private int readNumber(Text text, int most, int unlike) {
            if (fault != NONE) return 0;
            skipBlanks(text);
            int start = place;
            int value = 0;
            for (int i = start; i < text.length && isFigure(text.byteAt(i)); i++) {
                // Further figures make a fault in any case; leaving them out keeps the value small.
                if (i - start < MOST_FIGURES) value = value * 10 + text.byteAt(i) - '0';
                place = i + 1;
            }
            int figures = place - start;
            boolean good = within(figures, 1, MOST_FIGURES) && value <= most && value != unlike;
            if (!good) fault = start;
            return value;
        }

        private void readSemicolon(Text text) {
            if (fault != NONE) return;
            skipBlanks(text);
            if (text.byteAt(place) == ';') place++;
            else fault = place;
        }

        private void skipBlanks(Text text) {
            for (int i = place; i < text.length && text.byteAt(i) == ' '; i++) place = i + 1;
        }

        private static boolean isFigure(int c) {
            return c >= '0' && c <= '9';
        }
    }
}
