import java.util.LinkedHashMap;
import java.util.List;
import java.util.Map;

/** Calls at the document's bounds: what they answer, and what they leave as it was. */
final class Bounds {
    static final int NONE = -1, BAD = -2, NO = -3, FULL = -4;
    static final int LEAST = Integer.MIN_VALUE, MOST = Integer.MAX_VALUE;

    /**
     * What is done behind a call on either of two like objects. It brings to light what no question
     * tells: the bytes of the text, first of all.
     */
    private static final Story TAIL = new Story().then(OrphanLogs::does, o -> o.work(0, 7), o -> o.send(0, 1),
            o -> o.get(1, 0), o -> o.send(1, 0), o -> o.get(0, 0), o -> o.says(0), o -> o.says(1), o -> o.writes(0, 1),
            o -> o.loses(1), o -> o.work(1, 3), OrphanLogs::release, o -> o.cuts(0), OrphanLogs::sweeps, o -> o.type('r'));

    private final Check check;

    Bounds(String test) {
        check = new Check(test);
    }

    void due(String call, long got, long want) {
        check.due(call, got, want);
    }

    void holds(String what, boolean good) {
        check.holds(what, good);
    }

    void close() {
        check.close();
    }

    /** The call answers so and is not refused; what it changes is asked elsewhere. */
    void answers(String label, Story story, Story.Call call, long want) {
        due(label, story.answerOf(call), want);
        OrphanLogs before = story.tell();
        OrphanLogs after = story.then(call).tell();
        for (int what = 0; what <= 2; what++) due(label + ": told(" + what + ")", after.told(what), before.told(what));
    }

    /** The call answers so and changes nothing at all. */
    void changesNothing(String label, Story story, Story.Call call, long want) {
        due(label, story.answerOf(call), want);
        compare(label, story, story.then(call), null);
    }

    /** The call is refused with this code, which is counted once, and changes nothing else. */
    void refused(String label, Story story, Story.Call call, int code) {
        due(label, story.answerOf(call), code);
        compare(label, story, story.then(call), "told(" + (BAD - code) + ")");
    }

    /** All that is seen behind both stories is the same, but for the names given. */
    void sameBut(String label, Story story, Story other, Map<String, Long> but) {
        Map<String, Long> want = story.sights();
        want.putAll(but);
        same(label, other.sights(), want);
    }

    private void compare(String label, Story before, Story after, String counted) {
        same(label + ", then", after.sights(), oneMore(before.sights(), counted));
        Story late = before.then(TAIL);
        Story lateToo = after.then(TAIL);
        List<Long> answers = late.lastAnswers(TAIL.length());
        List<Long> answersToo = lateToo.lastAnswers(TAIL.length());
        holds(label + ", later calls answer " + answersToo + ", due are " + answers, answersToo.equals(answers));
        same(label + ", later", lateToo.sights(), oneMore(late.sights(), counted));
    }

    private static Map<String, Long> oneMore(Map<String, Long> sights, String counted) {
        if (counted != null) sights.merge(counted, 1L, Long::sum);
        return sights;
    }

    private void same(String label, Map<String, Long> got, Map<String, Long> want) {
        Map<String, Long> all = new LinkedHashMap<>(want);
        got.forEach(all::putIfAbsent);
        boolean like = true;
        for (String name : all.keySet()) {
            Long g = got.get(name);
            Long w = want.get(name);
            if (g != null && g.equals(w)) continue;
            holds(label + ": " + name + " is " + g + ", due is " + w + ", which", false);
            like = false;
        }
        if (like) holds(label, true);
    }
}
