import java.util.List;

/** States in which the bounds are asked for: early, with much going on, and with nothing more to be had. */
record States(String name, int n, Story story) {
    static final String BUSY_TEXT = "w0 1;o1;g0 0;";

    static Story begun(int n) {
        return new Story().then(o -> o.clerks(n));
    }

    /**
     * To clerk 0 a dead letter and one that lives, to clerk 1 one that lives; sayings: lost, released,
     * held and not safe, held and safe; clerk 0 has pages 2 (the first kept) and 3, clerk 1 page 1 of
     * his life 1, which rests on page 3 of clerk 0. BAD once, NO once. A text.
     */
    static Story busy(int n) {
        return begun(n).then(o -> o.work(1, 5), o -> o.says(1), o -> o.send(1, 0), o -> o.loses(1),
                o -> o.work(0, 3), o -> o.work(0, 4), o -> o.says(0), o -> o.writes(0, 2), OrphanLogs::release,
                o -> o.cuts(0), o -> o.work(0, 9), o -> o.says(0), o -> o.says(1), o -> o.send(0, 1),
                o -> o.send(0, 1), o -> o.get(1, 0), o -> o.send(1, 0), o -> o.work(-1, 0), o -> o.get(1, 9))
                .typed(BUSY_TEXT);
    }

    /** All clerks but the last have their 24 pages; letters, sayings, lives and text are as many as may be. */
    static Story full(int n) {
        Story story = begun(n).times(60, o -> o.loses(1));
        for (int c = 0; c < n - 1; c++) {
            int clerk = c;
            story = story.times(23, o -> o.work(clerk, 8));
        }
        return story.then(o -> o.writes(0, 5)).times(40, o -> o.send(0, 1)).times(15, o -> o.says(0))
                .times(15, o -> o.says(n - 1)).typed("r;".repeat(30) + " ".repeat(60));
    }

    /** All five clerks have just fallen by a loss of the last one, each with a page that stayed. */
    static Story fallen() {
        Story story = begun(5).times(4, o -> o.work(4, 2)).then(o -> o.writes(4, 1));
        for (int c = 0; c < 4; c++) {
            int d = c;
            story = story.then(o -> o.work(d, 1), o -> o.send(4, d), o -> o.get(d, 0), o -> o.says(d));
        }
        return story.then(o -> o.loses(4));
    }

    static List<States> all() {
        return List.of(new States("new", 3, new Story()), new States("two", 2, begun(2)), new States("five", 5, begun(5)),
                new States("busy", 3, busy(3)), new States("busy two", 2, busy(2)), new States("busy five", 5, busy(5)),
                new States("full", 3, full(3)), new States("full two", 2, full(2)),
                new States("fallen", 5, fallen()));
    }
}
