import java.util.ArrayList;
import java.util.LinkedHashMap;
import java.util.List;
import java.util.Map;

/**
 * A run of calls that can be told again on a new object, and all that can be seen behind it.
 * No object is asked more than the document's 512 calls: what is to be seen is asked of several.
 */
final class Story {
    /** One call with its numbers. */
    interface Call {
        long on(OrphanLogs o);
    }

    private static final int MOST_CALLS = 512;
    private final List<Call> calls;
    private Map<String, Long> seen;
    private final Map<Story, Story> continued = new LinkedHashMap<>();

    Story() {
        this(List.of());
    }

    private Story(List<Call> calls) {
        if (calls.size() >= MOST_CALLS) throw new IllegalStateException("a story of " + calls.size() + " calls");
        this.calls = calls;
    }

    Story then(Call... more) {
        List<Call> all = new ArrayList<>(calls);
        all.addAll(List.of(more));
        return new Story(all);
    }

    /** Kept, so that what is seen behind it is asked once. */
    Story then(Story rest) {
        return continued.computeIfAbsent(rest, r -> {
            List<Call> all = new ArrayList<>(calls);
            all.addAll(r.calls);
            return new Story(all);
        });
    }

    Story times(int often, Call call) {
        List<Call> all = new ArrayList<>(calls);
        for (int i = 0; i < often; i++) all.add(call);
        return new Story(all);
    }

    Story typed(String text) {
        List<Call> all = new ArrayList<>(calls);
        for (int i = 0; i < text.length(); i++) {
            int sign = text.charAt(i);
            all.add(o -> o.type(sign));
        }
        return new Story(all);
    }

    OrphanLogs tell() {
        OrphanLogs o = new OrphanLogs();
        for (Call call : calls) call.on(o);
        return o;
    }

    long answerOf(Call call) {
        return call.on(tell());
    }

    /** What the last calls of this story answer. */
    List<Long> lastAnswers(int often) {
        List<Long> answers = new ArrayList<>();
        OrphanLogs o = new OrphanLogs();
        for (int i = 0; i < calls.size(); i++) {
            long answer = calls.get(i).on(o);
            if (i >= calls.size() - often) answers.add(answer);
        }
        return answers;
    }

    int length() {
        return calls.size();
    }

    /** Every answer that can be asked for without being refused, but the digest, which is made of them. */
    Map<String, Long> sights() {
        if (seen != null) return new LinkedHashMap<>(seen);
        seen = new LinkedHashMap<>();
        OrphanLogs o = tell();
        int used = calls.size();
        for (Map.Entry<String, Call> question : questions().entrySet()) {
            if (used >= MOST_CALLS) {
                o = tell();
                used = calls.size();
            }
            seen.put(question.getKey(), question.getValue().on(o));
            used++;
        }
        return new LinkedHashMap<>(seen);
    }

    private Map<String, Call> questions() {
        Map<String, Call> q = new LinkedHashMap<>();
        OrphanLogs shape = tell();
        int n = shape.told(4);
        for (int w = 0; w <= 9; w++) {
            int what = w;
            q.put("told(" + w + ")", o -> o.told(what));
        }
        for (int c = 0; c < n; c++) {
            askOfClerk(q, c, shape.of(c, 0), shape.of(c, 6));
            for (int k = shape.of(c, 4); k <= shape.of(c, 1); k++) askOfPage(q, c, k, n);
        }
        for (int what = 0; what <= 1; what++) {
            int w = what;
            q.put("worst(" + w + ")", o -> o.worst(w));
        }
        askOfSayings(q, shape.told(6), shape.told(8));
        return q;
    }

    private static void askOfClerk(Map<String, Call> q, int c, int life, int letters) {
        for (int what = 0; what <= 7; what++) {
            int w = what;
            q.put("of(" + c + ", " + w + ")", o -> o.of(c, w));
        }
        for (int what = 0; what <= 2; what++) {
            int w = what;
            q.put("would(" + c + ", " + w + ")", o -> o.would(c, w));
        }
        for (int life0 = 0; life0 <= life + 1; life0++) {
            int l = life0;
            q.put("end(" + c + ", " + l + ")", o -> o.end(c, l));
            for (int page = 0; page <= 24; page++) {
                int k = page;
                q.put("dead(" + c + ", " + l + ", " + k + ")", o -> o.dead(c, l, k));
            }
        }
        for (int letter = 0; letter <= letters; letter++) {
            int k = letter;
            for (int what = 0; what <= 3; what++) {
                int w = what;
                q.put("letter(" + c + ", " + k + ", " + w + ")", o -> o.letter(c, k, w));
            }
        }
    }

    private static void askOfPage(Map<String, Call> q, int c, int k, int n) {
        q.put("page(" + c + ", " + k + ", 0, 0)", o -> o.page(c, k, 0, 0));
        q.put("page(" + c + ", " + k + ", 0, 1)", o -> o.page(c, k, 0, 1));
        for (int other = 0; other < n; other++) {
            int d = other;
            q.put("page(" + c + ", " + k + ", " + d + ", 2)", o -> o.page(c, k, d, 2));
            q.put("page(" + c + ", " + k + ", " + d + ", 3)", o -> o.page(c, k, d, 3));
        }
    }

    private static void askOfSayings(Map<String, Call> q, int sayings, int releases) {
        for (int saying = 0; saying <= sayings; saying++) {
            int k = saying;
            for (int what = 0; what <= 3; what++) {
                int w = what;
                q.put("saying(" + k + ", " + w + ")", o -> o.saying(k, w));
            }
        }
        for (int one = 0; one <= releases; one++) {
            int k = one;
            q.put("released(" + k + ")", o -> o.released(k));
        }
    }
}
