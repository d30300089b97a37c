import java.util.ArrayList;
import java.util.List;
import java.util.TreeMap;
import java.util.regex.Matcher;
import java.util.regex.Pattern;

/**
 * The document's terms told a second time, as literally as can be and without regard for speed:
 * a loss is done step by step by ENDS, and what would be is tried out on a copy.
 */
final class Model {
    static final int NONE = -1, BAD = -2, NO = -3, FULL = -4;

    record Rest(int life, int page) {
        Rest later(Rest o) {
            if (life != o.life) return life > o.life ? this : o;
            return page >= o.page ? this : o;
        }
    }

    record Page(int life, List<Rest> rests, int sum) { }

    record Letter(int from, int to, List<Rest> rests, int sum) { }

    static final class Clerk {
        int life, written, cut;
        final List<Page> pages = new ArrayList<>();
        final TreeMap<Integer, Integer> ends = new TreeMap<>();

        int now() {
            return pages.size() - 1;
        }
    }

    static final class Saying {
        int clerk, page, state;
    }

    int n = 3, went;
    final int[] refused = new int[3];
    List<Clerk> clerks = new ArrayList<>();
    List<Letter> letters = new ArrayList<>();
    List<Saying> sayings = new ArrayList<>();
    List<Integer> releases = new ArrayList<>();
    String text = "";

    Model() {
        begin(3);
    }

    private void begin(int v) {
        n = v;
        went = 0;
        clerks = new ArrayList<>();
        letters = new ArrayList<>();
        sayings = new ArrayList<>();
        releases = new ArrayList<>();
        for (int c = 0; c < n; c++) {
            Clerk k = new Clerk();
            List<Rest> rests = new ArrayList<>();
            for (int d = 0; d < n; d++) rests.add(new Rest(0, 0));
            k.pages.add(new Page(0, rests, 0));
            clerks.add(k);
        }
    }

    private Model copy() {
        Model m = new Model();
        m.begin(n);
        m.went = went;
        for (int c = 0; c < n; c++) {
            Clerk a = clerks.get(c), b = m.clerks.get(c);
            b.life = a.life;
            b.written = a.written;
            b.cut = a.cut;
            b.pages.clear();
            b.pages.addAll(a.pages);
            b.ends.putAll(a.ends);
        }
        m.letters.addAll(letters);
        for (Saying s : sayings) {
            Saying t = new Saying();
            t.clerk = s.clerk;
            t.page = s.page;
            t.state = s.state;
            m.sayings.add(t);
        }
        m.releases.addAll(releases);
        return m;
    }

    private int refuse(int code) {
        refused[-2 - code]++;
        return code;
    }

    private int answer(int a) {
        return a == BAD || a == NO || a == FULL ? refuse(a) : a;
    }

    private boolean isClerk(int c) {
        return 0 <= c && c < n;
    }

    private static boolean in(int v, int a, int b) {
        return a <= v && v <= b;
    }

    int clerks(int v) {
        if (!in(v, 2, 5)) return refuse(BAD);
        int was = n;
        begin(v);
        return was;
    }

    // ---- the rules, without counting refusals

    private int newPage(int c, long told, List<Rest> letterRests) {
        Clerk k = clerks.get(c);
        if (k.pages.size() == 24) return FULL;
        Page now = k.pages.get(k.now());
        int number = k.now() + 1;
        List<Rest> rests = new ArrayList<>();
        for (int d = 0; d < n; d++) {
            Rest r = now.rests.get(d);
            if (letterRests != null) r = r.later(letterRests.get(d));
            rests.add(d == c ? new Rest(k.life, number) : r);
        }
        k.pages.add(new Page(k.life, rests, (int) ((now.sum * 3L + told) % 1000003L)));
        return number;
    }

    private int post(int c, int d) {
        if (letters.size() == 40) return FULL;
        Page now = clerks.get(c).pages.get(clerks.get(c).now());
        letters.add(new Letter(c, d, now.rests, now.sum));
        return letters.size();
    }

    private boolean restDead(int c, int l, int k) {
        for (var e : clerks.get(c).ends.entrySet()) {
            if (e.getKey() >= l && e.getValue() < k) return true;
        }
        return false;
    }

    private boolean anyDead(List<Rest> rests) {
        for (int c = 0; c < n; c++) if (restDead(c, rests.get(c).life, rests.get(c).page)) return true;
        return false;
    }

    private Letter nth(int d, int k) {
        List<Letter> to = letters.stream().filter(l -> l.to == d).toList();
        return k < to.size() ? to.get(k) : null;
    }

    private void dropLetter(Letter gone) {
        for (int i = 0; i < letters.size(); i++) {
            if (letters.get(i) == gone) {
                letters.remove(i);
                return;
            }
        }
    }

    private int comes(int d, int k) {
        Letter l = nth(d, k);
        if (l == null) return NO;
        if (anyDead(l.rests)) {
            dropLetter(l);
            return NONE;
        }
        int number = newPage(d, l.sum, l.rests);
        if (number == FULL) return FULL;
        dropLetter(l);
        return number;
    }

    private int write(int c, int m) {
        Clerk k = clerks.get(c);
        k.written = Math.min(k.now(), k.written + m);
        return k.written;
    }

    private int tear(int c, int firstGone) {
        Clerk k = clerks.get(c);
        int goes = 0;
        while (k.pages.size() > firstGone) {
            k.pages.remove(k.pages.size() - 1);
            goes++;
        }
        k.ends.put(k.life, k.now());
        k.life++;
        k.written = Math.min(k.written, k.now());
        for (Saying s : sayings) if (s.clerk == c && s.page >= firstGone) s.state = 2;
        return goes;
    }

    private int loss(int c) {
        int goes = tear(c, clerks.get(c).written + 1);
        boolean more = true;
        while (more) {
            more = false;
            for (int d = 0; d < n && !more; d++) {
                int first = firstDead(d);
                if (first >= 0) {
                    goes += tear(d, first);
                    more = true;
                }
            }
        }
        went += goes;
        return goes;
    }

    private int firstDead(int d) {
        Clerk k = clerks.get(d);
        for (int p = 0; p < k.pages.size(); p++) if (anyDead(k.pages.get(p).rests)) return p;
        return -1;
    }

    private int lossCall(int c) {
        for (Clerk k : clerks) if (k.life >= 60) return FULL;
        return loss(c);
    }

    private boolean allWritten(int c, int p) {
        List<Rest> rests = clerks.get(c).pages.get(p).rests;
        for (int d = 0; d < n; d++) if (rests.get(d).page > clerks.get(d).written) return false;
        return true;
    }

    private int firm(int c) {
        int firm = 0;
        for (int p = 0; p < clerks.get(c).pages.size(); p++) if (allWritten(c, p)) firm = p;
        return firm;
    }

    private int cut(int c) {
        Clerk k = clerks.get(c);
        int was = k.cut;
        k.cut = firm(c);
        return k.cut - was;
    }

    private int tellSaying(int c) {
        if (sayings.size() == 30) return FULL;
        Saying s = new Saying();
        s.clerk = c;
        s.page = clerks.get(c).now();
        sayings.add(s);
        return held();
    }

    private int held() {
        return (int) sayings.stream().filter(s -> s.state == 0).count();
    }

    private boolean safe(Saying s) {
        return s.state == 0 && allWritten(s.clerk, s.page);
    }

    // ---- the face

    int work(int c, int x) {
        return answer(!isClerk(c) || !in(x, 0, 999) ? BAD : newPage(c, x, null));
    }

    int send(int c, int d) {
        return answer(!isClerk(c) || !isClerk(d) || c == d ? BAD : post(c, d));
    }

    int get(int d, int k) {
        return answer(!isClerk(d) || k < 0 ? BAD : comes(d, k));
    }

    int writes(int c, int m) {
        return answer(!isClerk(c) || !in(m, 1, 24) ? BAD : write(c, m));
    }

    int loses(int c) {
        return answer(!isClerk(c) ? BAD : lossCall(c));
    }

    int draw(int seed, int m) {
        if (!in(seed, 0, 999999) || !in(m, 1, 60)) return refuse(BAD);
        begin(n);
        long x = seed;
        int done = 0;
        for (int i = 0; i < m; i++) {
            x = (x * 1103515245L + 12345) & 0x7fffffffL;
            int c = (int) ((x >> 16) % n);
            int kind = (int) ((x >> 10) % 9);
            int a;
            if (kind <= 2) a = newPage(c, (x >> 15) % 1000, null);
            else if (kind <= 4) a = post(c, (c + 1) % n);
            else if (kind <= 6) a = comes(c, 0);
            else if (kind == 7) a = write(c, 2);
            else a = tellSaying(c);
            if (a != NO && a != FULL) done++;
        }
        return done;
    }

    int of(int c, int what) {
        if (!isClerk(c) || !in(what, 0, 7)) return refuse(BAD);
        Clerk k = clerks.get(c);
        return switch (what) {
            case 0 -> k.life;
            case 1 -> k.now();
            case 2 -> k.written;
            case 3 -> firm(c);
            case 4 -> k.cut;
            case 5 -> k.pages.get(k.now()).sum;
            case 6 -> (int) letters.stream().filter(l -> l.to == c).count();
            default -> (int) sayings.stream().filter(s -> s.state == 0 && s.clerk == c).count();
        };
    }

    int page(int c, int k, int d, int what) {
        if (!isClerk(c) || !isClerk(d) || k < 0 || !in(what, 0, 3)) return refuse(BAD);
        Clerk q = clerks.get(c);
        if (k >= q.pages.size() || k < q.cut) return refuse(NO);
        Page p = q.pages.get(k);
        return switch (what) {
            case 0 -> p.life;
            case 1 -> p.sum;
            case 2 -> p.rests.get(d).life;
            default -> p.rests.get(d).page;
        };
    }

    int dead(int c, int l, int k) {
        if (!isClerk(c) || !in(l, 0, 99) || !in(k, 0, 99)) return refuse(BAD);
        return restDead(c, l, k) ? 1 : 0;
    }

    int end(int c, int l) {
        if (!isClerk(c) || !in(l, 0, 99)) return refuse(BAD);
        return clerks.get(c).ends.getOrDefault(l, NONE);
    }

    int letter(int d, int k, int what) {
        if (!isClerk(d) || k < 0 || !in(what, 0, 3)) return refuse(BAD);
        Letter l = nth(d, k);
        if (l == null) return NONE;
        return switch (what) {
            case 0 -> l.from;
            case 1 -> l.sum;
            case 2 -> anyDead(l.rests) ? 1 : 0;
            default -> l.rests.get(l.from).page;
        };
    }

    int sweeps() {
        int was = letters.size();
        letters.removeIf(l -> anyDead(l.rests));
        return was - letters.size();
    }

    int says(int c) {
        return answer(!isClerk(c) ? BAD : tellSaying(c));
    }

    int release() {
        List<Integer> go = new ArrayList<>();
        for (int i = 0; i < sayings.size(); i++) if (safe(sayings.get(i))) go.add(i);
        go.sort((a, b) -> {
            Saying s = sayings.get(a), t = sayings.get(b);
            if (s.page != t.page) return s.page - t.page;
            return s.clerk != t.clerk ? s.clerk - t.clerk : a - b;
        });
        for (int i : go) sayings.get(i).state = 1;
        releases.addAll(go);
        return go.size();
    }

    int saying(int k, int what) {
        if (k < 0 || !in(what, 0, 3)) return refuse(BAD);
        if (k >= sayings.size()) return NONE;
        Saying s = sayings.get(k);
        return switch (what) {
            case 0 -> s.clerk;
            case 1 -> s.page;
            case 2 -> s.state;
            default -> safe(s) ? 1 : 0;
        };
    }

    int released(int k) {
        if (k < 0) return refuse(BAD);
        return k < releases.size() ? releases.get(k) : NONE;
    }

    int cuts(int c) {
        return answer(!isClerk(c) ? BAD : cut(c));
    }

    int would(int c, int what) {
        if (!isClerk(c) || !in(what, 0, 2)) return refuse(BAD);
        Model m = copy();
        int goes = m.loss(c);
        if (what == 0) return goes;
        if (what == 2) return held() - m.held();
        int greater = 0;
        for (int d = 0; d < n; d++) if (m.clerks.get(d).life > clerks.get(d).life) greater++;
        return greater;
    }

    int worst(int what) {
        if (!in(what, 0, 1)) return refuse(BAD);
        int best = 0;
        for (int c = 1; c < n; c++) if (would(c, 0) > would(best, 0)) best = c;
        return what == 0 ? best : would(best, 0);
    }

    int type(int c) {
        if (!in(c, 0, 127)) return refuse(BAD);
        if (text.length() == 120) return refuse(FULL);
        text += (char) c;
        return text.length();
    }

    int clear() {
        int had = text.length();
        text = "";
        return had;
    }

    private static final Pattern TOKEN = Pattern.compile(" *([0-9]+|[^0-9 ])");

    /** Cuts the text into tokens first, then walks them: another way than the program's. */
    int does() {
        List<String> tokens = new ArrayList<>();
        List<Integer> places = new ArrayList<>();
        Matcher m = TOKEN.matcher(text);
        while (m.find()) {
            tokens.add(m.group(1));
            places.add(m.start(1));
        }
        tokens.add("end");
        places.add(text.length());
        List<int[]> orders = new ArrayList<>();
        int t = 0;
        do {
            String kinds = "wsglxoru";
            String sign = tokens.get(t);
            int kind = sign.length() == 1 ? kinds.indexOf(sign) : -1;
            if (kind < 0) return -10 - places.get(t);
            int[] order = {sign.charAt(0), 0, 0};
            int numbers = kind < 3 ? 2 : kind < 6 ? 1 : 0;
            t++;
            for (int i = 1; i <= numbers; i++) {
                int most = i == 1 || kind == 1 ? n - 1 : kind == 0 ? 999 : 99;
                String f = tokens.get(t);
                boolean good = f.matches("[0-9]{1,3}") && Integer.parseInt(f) <= most;
                if (good && kind == 1 && i == 2) good = Integer.parseInt(f) != order[1];
                if (!good) return -10 - places.get(t);
                order[i] = Integer.parseInt(f);
                t++;
            }
            if (!tokens.get(t).equals(";")) return -10 - places.get(t);
            t++;
            orders.add(order);
        } while (!tokens.get(t).equals("end"));
        int done = 0;
        for (int[] o : orders) {
            int a = follow((char) o[0], o[1], o[2]);
            if (a != NO && a != FULL) done++;
        }
        return done;
    }

    private int follow(char kind, int a, int b) {
        switch (kind) {
            case 'w': return newPage(a, b, null);
            case 's': return post(a, b);
            case 'g': return comes(a, b);
            case 'l': return write(a, 24);
            case 'x': return lossCall(a);
            case 'o': return tellSaying(a);
            case 'r': return release();
            default:
                for (int c = 0; c < n; c++) cut(c);
                return 0;
        }
    }

    int told(int what) {
        if (!in(what, 0, 9)) return refuse(BAD);
        if (what < 3) return refused[what];
        return switch (what) {
            case 3 -> text.length();
            case 4 -> n;
            case 5 -> letters.size();
            case 6 -> sayings.size();
            case 7 -> held();
            case 8 -> releases.size();
            default -> went;
        };
    }

    long digest() {
        long h = 2099;
        for (int w = 0; w <= 9; w++) h = 31 * h + told(w);
        for (int c = 0; c < n; c++) for (int w = 0; w <= 7; w++) h = 31 * h + of(c, w);
        for (int k = 0; k < sayings.size(); k++) for (int w = 0; w <= 3; w++) h = 31 * h + saying(k, w);
        return h;
    }

    /** What the document says follows from its rules: nothing that stands is dead, least of all what is cut off. */
    boolean isSound() {
        for (int c = 0; c < n; c++) {
            Clerk k = clerks.get(c);
            if (firstDead(c) >= 0 || k.cut > firm(c) || k.written > k.now() || k.life > 60) return false;
        }
        for (Saying s : sayings) if (s.state == 1 && s.page > clerks.get(s.clerk).now()) return false;
        return true;
    }
}
