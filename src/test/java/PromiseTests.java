/** Each promise by answers that are worked out by hand from the document: ordinary inputs, edges, wrong inputs. */
public final class PromiseTests {
    private static final int PLAIN = 0, BAND = 1, WEDDING = 2, FIRE = 3, LANTERN = 4, LAUGH = 5;
    private static final int CHILD = 1, STIFF = 2, SURVEYOR = 3, TAUGHT = 4, OLD = 5;
    private static final int NONE = CountyTrick.NONE, BAD = CountyTrick.BAD, NO = CountyTrick.NO, FULL = CountyTrick.FULL;
    private static final int ALL = (1 << 30) - 1;
    /** The cells that are so far (6) from cell 0 that a plain watcher there notes nothing in them. */
    private static final int FAR_FROM_0 = bits(11, 16, 17, 21, 22, 23, 26, 27, 28, 29);

    private static int wrong = 0;
    private static String promise = "";

    private static void due(String call, long got, long want) {
        if (got != want) {
            wrong++;
            System.out.println(promise + ": " + call + " answered " + got + ", due is " + want);
        }
    }

    private static int bits(int... places) {
        int all = 0;
        for (int p : places) {
            all |= 1 << p;
        }
        return all;
    }

    private static long mix(long... values) {
        long h = 1487;
        for (long v : values) {
            h = 31 * h + v;
        }
        return h;
    }

    private static void type(CountyTrick x, String text) {
        x.clear();
        for (char c : text.toCharArray()) {
            x.type(c);
        }
    }

    /** The counts 0 to 10, the digest: one row that tells whether anything moved. */
    private static long[] all(CountyTrick x) {
        long[] row = new long[12];
        for (int i = 0; i <= 10; i++) {
            row[i] = x.count(i);
        }
        row[11] = x.digest();
        return row;
    }

    private static void same(String call, CountyTrick x, long[] before) {
        long[] after = all(x);
        for (int i = 0; i < after.length; i++) {
            due(call + ", then number " + i, after[i], before[i]);
        }
    }

    /** A plain watcher in cell 0, no shows. */
    private static CountyTrick plainAt0() {
        CountyTrick x = new CountyTrick();
        x.watcher(PLAIN, 0);
        return x;
    }

    public static void main(String[] args) {
        newObject();
        land();
        show();
        watcher();
        typeAndClear();
        read();
        readFaults();
        does();
        rest();
        movesTurnsSends();
        undo();
        undoDepth();
        ofAbout();
        pull();
        drawn();
        sees();
        unseen();
        when();
        enough();
        place();
        plan();
        planBad();
        guard();
        sawWhere();
        noteIs();
        look();
        markWhat();
        tries();
        forget();
        game();
        fails();
        years();
        part();
        images();
        status();
        count();
        digest();
        nowIsNow();
        extremes();
        System.out.println(wrong == 0 ? "all promises hold" : wrong + " answers are not as due");
        if (wrong != 0) {
            System.exit(1);
        }
    }

    private static void newObject() {
        promise = "Promise 1";
        due("NONE", NONE, -1);
        due("BAD", BAD, -2);
        due("NO", NO, -3);
        due("FULL", FULL, -4);
        CountyTrick x = new CountyTrick();
        for (int i = 0; i <= 10; i++) {
            due("count(" + i + ")", x.count(i), 0);
        }
        for (int i = 0; i <= 2; i++) {
            due("status(" + i + ")", x.status(i), 0);
        }
        due("part(0)", x.part(0), 0);
        due("part(1)", x.part(1), 1);
        due("from(0)", x.from(0), NO);
        due("from(1)", x.from(1), NO);
        due("undo()", x.undo(), NO);
        due("where()", x.where(), ALL);
        due("digest()", x.digest(), mix(0, 0, 0, 0, 0, 0, 0, 0, 0, 0, 0, 0, 1));
        CountyTrick other = new CountyTrick();
        x.show(0, 0, 1);
        due("another object's count(0)", other.count(0), 0);
    }

    private static void land() {
        promise = "Promise 2";
        CountyTrick x = new CountyTrick();
        due("land()", x.land(), 0);
        x.show(0, 0, 5);
        x.watcher(0, 0);
        x.watcher(0, 0);
        x.saw(0, 0);
        x.note(0, 1, 0, 0, 2);
        x.mark(0, 0, 0, 1);
        x.does(1);
        x.rest(3);
        x.fails(1, 3);
        x.type(65);
        x.image(1);
        x.does(30);
        due("land()", x.land(), 2);
        for (int i = 0; i <= 9; i++) {
            due("count(" + i + ")", x.count(i), 0);
        }
        due("count(10)", x.count(10), 1);
        due("undo()", x.undo(), NO);
        due("part(0)", x.part(0), 3);
        due("part(1)", x.part(1), 5);
        due("status(0)", x.status(0), 1);
        due("from(1)", x.from(1), 1);
        due("count(1)", x.count(1), 2);
        x.land();
        x.watcher(0, 0);
        due("about(0, 2)", x.about(0, 2), 0);
        x.show(3, 1, 2);
        due("of(0, 3)", x.of(0, 3), 1);
    }

    private static void show() {
        promise = "Promise 3";
        CountyTrick x = new CountyTrick();
        int[][] bad = {{-1, 0, 1}, {6, 0, 1}, {0, -1, 1}, {0, 30, 1}, {0, 0, 0}, {0, 0, 10}, {0, 0, -1}};
        for (int[] b : bad) {
            due("show", x.show(b[0], b[1], b[2]), BAD);
        }
        due("count(0)", x.count(0), 0);
        for (int s = 0; s < 5; s++) {
            due("show", x.show(s, 29 - s, 9 - s), s);
        }
        for (int s = 0; s < 5; s++) {
            due("of(0)", x.of(s, 0), s);
            due("of(1)", x.of(s, 1), 29 - s);
            due("of(2)", x.of(s, 2), 9 - s);
            due("of(3)", x.of(s, 3), 1);
        }
        long[] before = all(x);
        due("show", x.show(5, 0, 1), FULL);
        due("show", x.show(6, 0, 1), BAD);
        same("show refused", x, before);
        due("status(0)", x.status(0), 8);
        due("status(2)", x.status(2), 1);
    }

    private static void watcher() {
        promise = "Promise 4";
        CountyTrick x = new CountyTrick();
        int[][] bad = {{-1, 0}, {6, 0}, {0, -1}, {0, 30}};
        for (int[] b : bad) {
            due("watcher", x.watcher(b[0], b[1]), BAD);
        }
        for (int w = 0; w < 6; w++) {
            due("watcher", x.watcher(w, 29 - w), w);
        }
        for (int w = 0; w < 6; w++) {
            due("about(0)", x.about(w, 0), w);
            due("about(1)", x.about(w, 1), 29 - w);
            due("about(2)", x.about(w, 2), 0);
        }
        long[] before = all(x);
        due("watcher", x.watcher(5, 0), FULL);
        due("watcher", x.watcher(5, 30), BAD);
        same("watcher refused", x, before);
        due("status(0)", x.status(0), 5);
        due("status(2)", x.status(2), 1);
    }

    private static void typeAndClear() {
        promise = "Promises 5, 6";
        CountyTrick x = new CountyTrick();
        due("clear()", x.clear(), 0);
        due("type(-1)", x.type(-1), BAD);
        due("type(128)", x.type(128), BAD);
        due("type(0)", x.type(0), 1);
        due("type(127)", x.type(127), 2);
        due("clear()", x.clear(), 2);
        due("count(10)", x.count(10), 0);
        for (int i = 1; i <= 150; i++) {
            due("type", x.type(32), i);
        }
        due("type(1)", x.type(1), FULL);
        due("type(128)", x.type(128), BAD);
        due("count(10)", x.count(10), 150);
        due("status(2)", x.status(2), 1);
        due("read()", x.read(), -160);
        due("clear()", x.clear(), 150);
        due("type(65)", x.type(65), 1);
    }

    private static void reads(String text, int want) {
        CountyTrick x = new CountyTrick();
        x.show(3, 7, 2);
        x.watcher(1, 8);
        x.does(3);
        x.saw(3, 0);
        type(x, text);
        long[] before = all(x);
        due("read() of '" + text + "'", x.read(), want);
        if (want < 0) {
            same("read() of '" + text + "'", x, before);
        }
        for (int i = 0; i <= 2; i++) {
            due("status(" + i + ") behind '" + text + "'", x.status(i), 0);
        }
        due("count(10) behind '" + text + "'", x.count(10), text.length());
    }

    private static void read() {
        promise = "Promise 7";
        reads("land;", 1);
        reads("  land  ;  ", 1);
        reads("land;show0 0 1;", 2);
        reads("land;show 05 29 09;off 00;watcher 5 29;do 0;rest 99;", 6);
        reads("land;show 0 0 1;show 0 0 1;show 0 0 1;show 0 0 1;show 0 0 1;off 4;off 4;", 8);
        reads("land;do 1;do 2;do 29;rest 1;", 5);
        CountyTrick x = new CountyTrick();
        x.watcher(0, 0);
        x.fails(0, 7);
        x.image(0);
        x.saw(0, 1);
        x.does(0);
        x.type(200);
        type(x, "land;show 0 0 9;show 1 29 2;watcher 0 0;do 0;off 0;do 0;rest 7;do 1;rest 2;");
        due("read()", x.read(), 10);
        due("count(0)", x.count(0), 2);
        due("count(1)", x.count(1), 1);
        due("the step", x.count(2), 12);
        due("done", x.count(3), 3);
        due("on", x.count(4), 1);
        due("knows", x.about(0, 2), 2);
        due("saws", x.count(6), 0);
        due("undo", x.undo(), NO);
        due("of(0, 3)", x.of(0, 3), 0);
        due("of(1, 0)", x.of(1, 0), 1);
        due("of(1, 1)", x.of(1, 1), 29);
        due("of(1, 2)", x.of(1, 2), 2);
        due("part(0)", x.part(0), 1);
        due("status(0)", x.status(0), 1);
        due("read() again", x.read(), 10);
        due("done again", x.count(3), 3);
        due("from(0)", x.from(0), 1);
        due("count(0)", x.count(0), 0);
    }

    private static void readFaults() {
        promise = "Promise 7, faults";
        reads("", -10);
        reads("   ", -13);
        reads("land", -14);
        reads("lan", -10);
        reads("Land;", -10);
        reads("5;", -10);
        reads(";", -10);
        reads("show 0 0 1;", -10);
        reads(" do 1;", -11);
        reads("land;land;", -15);
        reads("land; house;", -16);
        reads("land;;", -15);
        reads("land;7;", -15);
        reads("land;\t", -15);
        reads("land;do 30;", -18);
        reads("land;do 100;", -18);
        reads("land;do 001;", -18);
        reads("land;do 1 2;", -20);
        reads("land;do 1x;", -19);
        reads("land;do;", -17);
        reads("land;do", -17);
        reads("land;do 2", -19);
        reads("land;do 2  ", -21);
        reads("land;rest 0;", -20);
        reads("land;rest 00;", -20);
        reads("land;rest -1;", -20);
        reads("land;show 6 0 1;", -20);
        reads("land;show 5 30 1;", -22);
        reads("land;show 5 29 0;", -25);
        reads("land;show 5 29 10;", -25);
        reads("land;show 5 29;", -24);
        reads("land;show 5 29 1 1;", -27);
        reads("land;watcher 6 0;", -23);
        reads("land;watcher 5 30;", -25);
        reads("land;off 0;", -19);
        reads("land;show 0 0 1;off 1;", -30);
        reads("land;off 0;show 0 0 1;", -19);
        reads("landdo 1;", -10);
        String shows = "land;show 0 0 1;show 0 0 1;show 0 0 1;show 0 0 1;show 0 0 1;";
        reads(shows, 6);
        reads(shows + "show", -10 - shows.length());
        String watchers = "land;watcher 0 0;watcher 0 0;watcher 0 0;watcher 0 0;watcher 0 0;watcher 0 0;";
        reads(watchers, 7);
        reads(watchers + " watcher 9", -11 - watchers.length());
    }

    private static void does() {
        promise = "Promise 8";
        CountyTrick x = plainAt0();
        x.watcher(STIFF, 29);
        x.watcher(PLAIN, 1);
        due("does(30)", x.does(30), BAD);
        due("does(-1)", x.does(-1), BAD);
        due("count(2)", x.count(2), 0);
        due("does(0)", x.does(0), 5);
        due("does(29)", x.does(29), 2);
        due("does(5)", x.does(5), 7);
        due("knows 0", x.about(0, 2), 2);
        due("knows 1", x.about(1, 2), 2);
        due("knows 2", x.about(2, 2), 2);
        due("step", x.count(2), 3);
        due("done", x.count(3), 3);
        CountyTrick late = plainAt0();
        for (int i = 0; i < 101; i++) {
            late.rest(99);
        }
        due("step", late.count(2), 9999);
        due("does(0)", late.does(0), 1);
        due("step", late.count(2), 9999);
        due("done", late.count(3), 1);
        due("knows", late.count(5), 1);
        due("undo()", late.undo(), 9999);
        due("knows", late.count(5), 0);
    }

    private static void rest() {
        promise = "Promise 9";
        CountyTrick x = new CountyTrick();
        due("rest(0)", x.rest(0), BAD);
        due("rest(100)", x.rest(100), BAD);
        due("rest(-5)", x.rest(-5), BAD);
        due("count(9)", x.count(9), 0);
        due("rest(1)", x.rest(1), 1);
        due("rest(99)", x.rest(99), 100);
        due("count(9)", x.count(9), 2);
        due("undo()", x.undo(), 1);
        for (int i = 1; i <= 100; i++) {
            due("rest(99)", x.rest(99), 1 + 99 * i);
        }
        due("rest(99)", x.rest(99), 9999);
        due("rest(1)", x.rest(1), 9999);
        due("done", x.count(3), 0);
        due("undo()", x.undo(), 9999);
        due("undo()", x.undo(), 9901);
    }

    private static void movesTurnsSends() {
        promise = "Promises 10, 11, 12";
        CountyTrick x = plainAt0();
        x.show(0, 3, 4);
        x.show(0, 4, 4);
        due("moves", x.moves(1, 29), 4);
        due("moves", x.moves(1, 0), 29);
        due("moves", x.moves(0, 0), 3);
        due("of(1, 1)", x.of(1, 1), 0);
        due("turns", x.turns(1, 1), 1);
        due("turns", x.turns(1, 0), 1);
        due("turns", x.turns(1, 0), 0);
        due("turns", x.turns(1, 1), 0);
        due("on", x.count(4), 2);
        due("sends", x.sends(0, 29), 0);
        due("sends", x.sends(0, 5), 29);
        due("about(0, 1)", x.about(0, 1), 5);
        due("step", x.count(2), 0);
        due("count(9)", x.count(9), 8);
        long[] before = all(x);
        int[][] bad = {{2, 0}, {-1, 0}, {0, 30}, {0, -1}};
        for (int[] b : bad) {
            due("moves", x.moves(b[0], b[1]), BAD);
        }
        due("turns(2, 0)", x.turns(2, 0), BAD);
        due("turns(-1, 0)", x.turns(-1, 0), BAD);
        due("turns(0, 2)", x.turns(0, 2), BAD);
        due("turns(0, -1)", x.turns(0, -1), BAD);
        due("sends(1, 0)", x.sends(1, 0), BAD);
        due("sends(-1, 0)", x.sends(-1, 0), BAD);
        due("sends(0, 30)", x.sends(0, 30), BAD);
        due("sends(0, -1)", x.sends(0, -1), BAD);
        same("refused", x, before);
        due("status(0)", x.status(0), 12);
    }

    private static void undo() {
        promise = "Promise 13";
        CountyTrick x = plainAt0();
        x.show(PLAIN, 29, 9);
        x.does(1);
        x.moves(0, 7);
        x.turns(0, 0);
        x.sends(0, 14);
        x.rest(50);
        due("count(9)", x.count(9), 5);
        due("undo a rest", x.undo(), 1);
        due("undo a sending", x.undo(), 1);
        due("where one stood", x.about(0, 1), 0);
        due("of(0, 3)", x.of(0, 3), 0);
        due("undo a turning", x.undo(), 1);
        due("of(0, 3)", x.of(0, 3), 1);
        due("of(0, 1)", x.of(0, 1), 7);
        due("undo a move", x.undo(), 1);
        due("of(0, 1)", x.of(0, 1), 29);
        due("knows", x.about(0, 2), 1);
        due("done", x.count(3), 1);
        due("undo a doing", x.undo(), 0);
        due("knows", x.about(0, 2), 0);
        due("done", x.count(3), 0);
        due("undo()", x.undo(), NO);
        due("status(1)", x.status(1), 1);
        x.rest(1);
        x.show(9, 9, 9);
        x.watcher(9, 9);
        due("count(9) behind refused ones", x.count(9), 1);
        x.saw(0, 0);
        x.note(0, 1, 0, 0, 2);
        x.mark(0, 0, 0, 1);
        x.forget(2);
        due("undo()", x.undo(), 0);
        due("saws stay", x.count(6), 1);
        due("notes stay", x.count(7), 1);
        x.rest(1);
        x.show(0, 0, 1);
        due("undo() behind a show", x.undo(), NO);
        x.rest(1);
        x.watcher(0, 0);
        due("undo() behind a watcher", x.undo(), NO);
        due("count(2)", x.count(2), 2);
    }

    private static void undoDepth() {
        promise = "Promise 13, how many";
        CountyTrick x = plainAt0();
        for (int i = 1; i <= 8; i++) {
            x.rest(i);
            due("count(9)", x.count(9), i);
        }
        x.rest(9);
        x.does(0);
        due("count(9)", x.count(9), 8);
        int[] steps = {45, 36, 28, 21, 15, 10, 6, 3};
        for (int step : steps) {
            due("undo()", x.undo(), step);
        }
        due("undo()", x.undo(), NO);
        due("count(2)", x.count(2), 3);
    }

    private static void ofAbout() {
        promise = "Promises 14, 15";
        CountyTrick x = plainAt0();
        x.show(4, 12, 7);
        x.turns(0, 0);
        int[] show = {4, 12, 7, 0};
        for (int i = 0; i < 4; i++) {
            due("of(0, " + i + ")", x.of(0, i), show[i]);
        }
        due("of(0, 4)", x.of(0, 4), BAD);
        due("of(0, -1)", x.of(0, -1), BAD);
        due("of(1, 0)", x.of(1, 0), BAD);
        due("of(-1, 0)", x.of(-1, 0), BAD);
        due("about(0, 3)", x.about(0, 3), BAD);
        due("about(0, -1)", x.about(0, -1), BAD);
        due("about(1, 0)", x.about(1, 0), BAD);
        due("about(-1, 0)", x.about(-1, 0), BAD);
        due("status(0)", x.status(0), 8);
    }

    private static void pulls(int kind, int loud, int cell, int t, int want) {
        CountyTrick x = plainAt0();
        x.show(kind, cell, loud);
        if (t > 0) {
            x.rest(t);
        }
        due("kind " + kind + " loud " + loud + " in " + cell + " on " + t, x.pull(0, 0), want);
        x.turns(0, 0);
        due("not on, kind " + kind, x.pull(0, 0), want);
    }

    private static void pull() {
        promise = "Promise 16";
        pulls(PLAIN, 3, 7, 0, 4);
        pulls(PLAIN, 3, 12, 1, 4);
        pulls(PLAIN, 1, 5, 0, 0);
        pulls(PLAIN, 9, 29, 0, 9);
        pulls(BAND, 3, 2, 0, 7);
        pulls(BAND, 3, 2, 1, 4);
        pulls(BAND, 3, 2, 13, 4);
        pulls(BAND, 3, 2, 24, 7);
        pulls(BAND, 1, 5, 0, 3);
        pulls(BAND, 1, 5, 1, 0);
        pulls(WEDDING, 9, 5, 0, 13);
        pulls(WEDDING, 9, 11, 0, 0);
        pulls(FIRE, 3, 2, 0, 14);
        pulls(FIRE, 3, 2, 1, 8);
        pulls(FIRE, 9, 0, 0, 30);
        pulls(FIRE, 9, 3, 1, 30);
        pulls(FIRE, 8, 2, 1, 28);
        pulls(FIRE, 1, 29, 2, 6);
        pulls(LANTERN, 3, 2, 5, 0);
        pulls(LANTERN, 3, 2, 0, 0);
        pulls(LANTERN, 3, 2, 6, 14);
        pulls(LANTERN, 3, 2, 7, 8);
        pulls(LANTERN, 3, 2, 11, 8);
        pulls(LANTERN, 3, 2, 12, 0);
        pulls(LANTERN, 9, 0, 18, 30);
        pulls(LAUGH, 3, 2, 0, 5);
        pulls(LAUGH, 9, 11, 0, 0);
        pulls(LAUGH, 1, 2, 0, 0);
        pulls(LAUGH, 1, 1, 0, 2);
        CountyTrick x = plainAt0();
        due("pull(0, 0)", x.pull(0, 0), BAD);
        x.show(0, 0, 1);
        due("pull(1, 0)", x.pull(1, 0), BAD);
        due("pull(-1, 0)", x.pull(-1, 0), BAD);
        due("pull(0, 1)", x.pull(0, 1), BAD);
        due("pull(0, -1)", x.pull(0, -1), BAD);
    }

    private static void drawn() {
        promise = "Promise 17";
        CountyTrick x = new CountyTrick();
        for (int kind = 0; kind < 6; kind++) {
            x.watcher(kind, 0);
        }
        int[] unpulled = {0, 0, 0, 0, 2, 1};
        for (int w = 0; w < 6; w++) {
            due("which, none", x.drawn(w, 0), NONE);
            due("how far, none", x.drawn(w, 1), unpulled[w]);
        }
        x.show(PLAIN, 1, 4);
        x.show(PLAIN, 0, 6);
        x.show(PLAIN, 0, 6);
        x.show(PLAIN, 0, 9);
        x.turns(3, 0);
        int[] by12 = {12, 24, 0, 12, 26, 13};
        for (int w = 0; w < 6; w++) {
            due("which", x.drawn(w, 0), 1);
            due("how far", x.drawn(w, 1), by12[w]);
        }
        x.turns(3, 1);
        due("which", x.drawn(0, 0), 3);
        due("how far", x.drawn(1, 1), 36);
        x.turns(1, 0);
        x.turns(2, 0);
        x.turns(3, 0);
        due("which", x.drawn(2, 0), 0);
        due("how far", x.drawn(5, 1), 8);
        x.moves(0, 29);
        due("a show that pulls by 0", x.drawn(0, 0), NONE);
        due("drawn(0, 2)", x.drawn(0, 2), BAD);
        due("drawn(0, -1)", x.drawn(0, -1), BAD);
        due("drawn(6, 0)", x.drawn(6, 0), BAD);
        due("drawn(-1, 0)", x.drawn(-1, 0), BAD);
    }

    /** The farthest doing (in columns, from cell 0) that a watcher sees; -1: none. */
    private static void seesUpTo(int kind, int loud, int want) {
        CountyTrick x = new CountyTrick();
        x.watcher(kind, 0);
        if (loud > 0) {
            x.show(PLAIN, 0, loud);
        }
        int[] cells = {0, 1, 2, 3, 4, 5, 11, 17, 23, 29};
        for (int f = 0; f <= 9; f++) {
            due("kind " + kind + " loud " + loud + " so far " + f, x.sees(0, cells[f]), f <= want ? 1 : 0);
        }
    }

    private static void sees() {
        promise = "Promise 18";
        seesUpTo(PLAIN, 0, 5);
        seesUpTo(PLAIN, 2, 3);
        seesUpTo(PLAIN, 5, 0);
        seesUpTo(PLAIN, 6, -1);
        seesUpTo(CHILD, 0, 5);
        seesUpTo(CHILD, 1, 3);
        seesUpTo(CHILD, 3, -1);
        seesUpTo(STIFF, 9, 5);
        seesUpTo(SURVEYOR, 0, 9);
        seesUpTo(SURVEYOR, 1, 9);
        seesUpTo(SURVEYOR, 2, 5);
        seesUpTo(SURVEYOR, 7, 0);
        seesUpTo(SURVEYOR, 8, -1);
        seesUpTo(TAUGHT, 0, 4);
        seesUpTo(TAUGHT, 1, 2);
        seesUpTo(OLD, 0, 4);
        seesUpTo(OLD, 1, 2);
        CountyTrick x = plainAt0();
        due("none told, one there", x.sees(NONE, 0), 1);
        x.watcher(PLAIN, 29);
        x.watcher(PLAIN, 14);
        due("who, in 0", x.sees(NONE, 0), 5);
        due("who, in 29", x.sees(NONE, 29), 6);
        due("who, in 14", x.sees(NONE, 14), 7);
        due("sees(1, 0)", x.sees(1, 0), 0);
        due("sees(2, 0)", x.sees(2, 0), 1);
        due("count(2)", x.count(2), 0);
        due("sees(3, 0)", x.sees(3, 0), BAD);
        due("sees(-2, 0)", x.sees(-2, 0), BAD);
        due("sees(0, 30)", x.sees(0, 30), BAD);
        due("sees(-1, -1)", x.sees(-1, -1), BAD);
        due("status(0)", x.status(0), 4);
    }

    private static void unseen() {
        promise = "Promise 19";
        CountyTrick x = new CountyTrick();
        due("nobody", x.unseen(11), ALL);
        x.watcher(PLAIN, 0);
        due("unseen(0)", x.unseen(0), FAR_FROM_0);
        x.rest(1);
        x.show(BAND, 0, 5);
        due("drawn by 13", x.unseen(0), ALL);
        due("drawn by 10", x.unseen(1), ALL & ~1);
        due("drawn by 13", x.unseen(10), ALL);
        due("drawn by 10", x.unseen(11), ALL & ~1);
        x.turns(0, 0);
        due("not on", x.unseen(0), FAR_FROM_0);
        due("unseen(12)", x.unseen(12), BAD);
        due("unseen(-1)", x.unseen(-1), BAD);
    }

    private static void when() {
        promise = "Promise 20";
        CountyTrick x = plainAt0();
        due("seen always", x.when(0), NONE);
        due("seen never", x.when(29), 0);
        x.show(LANTERN, 0, 9);
        due("a lantern", x.when(0), 6);
        x.rest(5);
        due("a lantern", x.when(0), 1);
        x.rest(1);
        due("a lantern", x.when(0), 0);
        x.rest(6);
        due("a lantern, next day", x.when(0), 6);
        x.turns(0, 0);
        due("not on", x.when(0), NONE);
        due("when(30)", x.when(30), BAD);
        due("when(-1)", x.when(-1), BAD);
        CountyTrick last = plainAt0();
        last.show(LANTERN, 0, 9);
        for (int i = 0; i < 101; i++) {
            last.rest(99);
        }
        due("9999 is 3 of a day, steps go on", last.when(0), 3);
        CountyTrick odd = plainAt0();
        odd.show(BAND, 0, 1);
        due("band, even", odd.when(4), 0);
        odd.rest(1);
        due("band, odd", odd.when(4), 1);
    }

    private static void enough() {
        promise = "Promise 21";
        CountyTrick x = new CountyTrick();
        x.show(PLAIN, 0, 9);
        due("nobody there", x.enough(0), 0);
        x.land();
        x.watcher(PLAIN, 0);
        due("no shows", x.enough(0), NONE);
        due("too far", x.enough(29), 0);
        x.show(PLAIN, 0, 1);
        due("too quiet", x.enough(0), NONE);
        x.show(PLAIN, 0, 6);
        x.show(PLAIN, 0, 9);
        due("of like ones the least", x.enough(0), 2);
        x.turns(1, 0);
        due("not on, the same", x.enough(0), 2);
        due("any of them", x.enough(5), 1);
        x.watcher(STIFF, 0);
        due("a stiff neck", x.enough(0), NONE);
        due("enough(30)", x.enough(30), BAD);
        due("enough(-1)", x.enough(-1), BAD);
        CountyTrick two = plainAt0();
        two.watcher(PLAIN, 29);
        two.show(WEDDING, 0, 9);
        two.show(LANTERN, 3, 9);
        two.show(WEDDING, 29, 9);
        due("both weddings", two.enough(14), 5);
        two.rest(6);
        due("the lantern alone, now", two.enough(14), 2);
        two.rest(6);
        two.show(PLAIN, 29, 9);
        due("the loud one alone", two.enough(14), 8);
        CountyTrick five = new CountyTrick();
        for (int cell : new int[] {1, 6, 17, 22, 25}) {
            five.watcher(PLAIN, cell);
            five.show(PLAIN, cell, 3);
        }
        due("all five", five.enough(14), 31);
    }

    private static void place() {
        promise = "Promise 22";
        CountyTrick x = new CountyTrick();
        x.watcher(PLAIN, 14);
        x.show(WEDDING, 3, 6);
        due("just there", x.place(0, 14, 0), 14);
        due("none then", x.place(0, 14, 1), 0);
        x.turns(0, 0);
        due("on then", x.place(0, 14, 0), 14);
        due("of(0, 1)", x.of(0, 1), 3);
        due("of(0, 3)", x.of(0, 3), 0);
        x.show(PLAIN, 0, 1);
        due("never enough, the least", x.place(1, 14, 0), 0);
        due("how many", x.place(1, 14, 1), 1);
        x.watcher(PLAIN, 14);
        due("how many", x.place(1, 14, 1), 2);
        x.show(PLAIN, 14, 9);
        due("the others stay on", x.place(1, 14, 1), 0);
        x.turns(2, 0);
        due("the others stay off", x.place(1, 14, 1), 2);
        x.watcher(STIFF, 0);
        due("two of three are drawn", x.place(0, 14, 1), 1);
        due("there", x.place(0, 14, 0), 14);
        due("place(3, 0, 0)", x.place(3, 0, 0), BAD);
        due("place(-1, 0, 0)", x.place(-1, 0, 0), BAD);
        due("place(0, 30, 0)", x.place(0, 30, 0), BAD);
        due("place(0, -1, 0)", x.place(0, -1, 0), BAD);
        due("place(0, 0, 2)", x.place(0, 0, 2), BAD);
        due("place(0, 0, -1)", x.place(0, 0, -1), BAD);
    }

    private static void plans(CountyTrick x, int cells, int... steps) {
        int last = -1;
        for (int i = 0; i < steps.length; i++) {
            due("plan(" + cells + ", " + i + ")", x.plan(cells, i), steps[i]);
            last = Math.max(last, steps[i]);
        }
        due("plan(" + cells + ", -1)", x.plan(cells, -1), last + 1);
        due("plan(" + cells + ", " + steps.length + ")", x.plan(cells, steps.length), -5);
        due("plan(" + cells + ", 99)", x.plan(cells, 99), -5);
    }

    private static void plan() {
        promise = "Promise 23";
        CountyTrick free = new CountyTrick();
        plans(free, 11, 0);
        plans(free, 40114011, 0, 1, 2, 3);
        CountyTrick x = plainAt0();
        due("none", x.plan(11, -1), NONE);
        due("none, whatever i is", x.plan(11, 7), NONE);
        due("none, for one of two", x.plan(4011, 0), NONE);
        x.show(LANTERN, 0, 9);
        plans(x, 11, 6);
        plans(x, 1111, 6, 7);
        plans(x, 1140, 6, 0);
        plans(x, 4011, 0, 6);
        plans(x, 11111111, 6, 7, 8, 9);
        plans(x, 114011, 6, 0, 7);
        x.rest(10);
        plans(x, 111111, 0, 1, 8);
        plans(x, 40111111, 2, 0, 1, 8);
        CountyTrick even = plainAt0();
        even.show(BAND, 0, 1);
        plans(even, 4015, 1, 0);
        plans(even, 1515, 0, 2);
        plans(even, 15151515, 0, 2, 4, 6);
        CountyTrick rare = plainAt0();
        rare.show(LANTERN, 0, 1);
        rare.rest(11);
        plans(rare, 12121212, 7, 9, 11, 19);
        CountyTrick last = plainAt0();
        last.show(LANTERN, 0, 9);
        for (int i = 0; i < 101; i++) {
            last.rest(99);
        }
        plans(last, 1111, 3, 4);
        due("count(2)", last.count(2), 9999);
        due("done", last.count(3), 0);
    }

    private static void planBad() {
        promise = "Promise 23, wrong numbers";
        CountyTrick x = new CountyTrick();
        int[] bad = {0, -11, -1111, 1, 10, 41, 99, 111, 511, 1110, 1141, 1011, 4111, 110, 11111, 111099, 11111141,
            41111111, 111111111, 1111111111, Integer.MAX_VALUE, Integer.MIN_VALUE};
        for (int cells : bad) {
            due("plan(" + cells + ", -1)", x.plan(cells, -1), -10);
        }
        due("plan(11, -2)", x.plan(11, -2), -10);
        due("status(0)", x.status(0), bad.length + 1);
        due("plan(11, 5)", x.plan(11, 5), -5);
        due("status(0)", x.status(0), bad.length + 1);
        x.watcher(PLAIN, 0);
        due("BAD goes ahead of none", x.plan(11, -2), -10);
    }

    private static void guard() {
        promise = "Promise 24";
        CountyTrick x = new CountyTrick();
        x.watcher(PLAIN, 0);
        x.watcher(SURVEYOR, 29);
        x.watcher(TAUGHT, 29);
        due("plain", x.guard(0, 0), 14);
        due("all", x.guard(0, 1), 30);
        due("a surveyor", x.guard(1, 0), 0);
        due("all", x.guard(1, 1), 30);
        due("a taught one sees up to 4", x.guard(2, 0), 14);
        due("all but one column's ends", x.guard(2, 1), 28);
        due("where one stands", x.about(0, 1), 0);
        x.show(PLAIN, 0, 9);
        due("drawn by 18 less f: the farthest, seeing 1 or 2 off", x.guard(0, 0), 29);
        due("cells", x.guard(0, 1), 3);
        x.turns(0, 0);
        due("not on", x.guard(0, 1), 30);
        x.turns(0, 1);
        x.moves(0, 14);
        due("nowhere, the least", x.guard(0, 0), 0);
        due("none", x.guard(0, 1), 0);
        due("guard(3, 0)", x.guard(3, 0), BAD);
        due("guard(-1, 0)", x.guard(-1, 0), BAD);
        due("guard(0, 2)", x.guard(0, 2), BAD);
        due("guard(0, -1)", x.guard(0, -1), BAD);
    }

    private static void sawWhere() {
        promise = "Promises 25, 26";
        CountyTrick x = new CountyTrick();
        due("saw(0, 1)", x.saw(0, 1), BAD);
        due("saw(0, 0)", x.saw(0, 0), 1);
        due("where()", x.where(), ALL);
        x.watcher(PLAIN, 0);
        due("nobody saw", x.where(), FAR_FROM_0);
        x.forget(0);
        due("saw(0, 1)", x.saw(0, 1), 1);
        due("one saw", x.where(), ALL & ~FAR_FROM_0);
        x.watcher(SURVEYOR, 29);
        due("one more would have seen", x.where(), 0);
        x.show(BAND, 29, 1);
        due("the surveyor is drawn by 5", x.where(), ALL & ~FAR_FROM_0 & ~x.unseen(0) & bits(0, 1, 2, 3, 6, 7, 8, 12, 13, 18));
        due("saw(1, 3)", x.saw(1, 3), 2);
        due("on an odd step it is drawn by 2", x.where(), bits(0, 1, 2, 3, 6, 7, 8, 12, 13, 18));
        due("saw(1, 0)", x.saw(1, 0), 3);
        due("no cell is both", x.where(), 0);
        due("saw(12, 0)", x.saw(12, 0), BAD);
        due("saw(-1, 0)", x.saw(-1, 0), BAD);
        due("saw(0, 4)", x.saw(0, 4), BAD);
        due("saw(0, -1)", x.saw(0, -1), BAD);
        due("saw", x.saw(11, 3), 4);
        due("saw", x.saw(11, 3), 5);
        due("saw", x.saw(11, 3), 6);
        due("saw", x.saw(11, 3), FULL);
        due("saw", x.saw(12, 3), BAD);
        due("count(6)", x.count(6), 6);
        due("status(2)", x.status(2), 1);
    }

    private static void noteIs() {
        promise = "Promises 27, 30";
        CountyTrick x = new CountyTrick();
        due("no show", x.note(0, 1, 0, 0, 0), BAD);
        due("no show", x.is(0), BAD);
        x.show(PLAIN, 0, 9);
        x.show(LAUGH, 0, 9);
        due("any", x.is(0), 63);
        int[][] bad = {{2, 1, 0, 0, 0}, {-1, 1, 0, 0, 0}, {0, 0, 0, 0, 0}, {0, 10, 0, 0, 0}, {0, 1, -1, 0, 0}, {0, 1, 10, 0, 0},
            {0, 1, 0, -1, 0}, {0, 1, 0, 12, 0}, {0, 1, 0, 0, -1}, {0, 1, 0, 0, 41}};
        for (int[] b : bad) {
            due("note", x.note(b[0], b[1], b[2], b[3], b[4]), BAD);
        }
        due("note", x.note(0, 3, 2, 0, 4), 1);
        due("plain or wedding", x.is(0), bits(PLAIN, WEDDING));
        due("another show", x.is(1), 63);
        due("note", x.note(0, 9, 9, 11, 9), 2);
        due("plain", x.is(0), bits(PLAIN));
        due("note", x.note(1, 3, 2, 6, 14), 3);
        due("fire or lantern", x.is(1), bits(FIRE, LANTERN));
        due("note", x.note(1, 3, 2, 5, 0), 4);
        due("lantern", x.is(1), bits(LANTERN));
        due("note", x.note(1, 1, 0, 0, 40), 5);
        due("none", x.is(1), 0);
        due("note", x.note(0, 1, 0, 0, 2), 6);
        due("note", x.note(0, 1, 0, 0, 2), FULL);
        due("note", x.note(0, 1, 0, 0, 41), BAD);
        due("count(7)", x.count(7), 6);
        due("is(2)", x.is(2), BAD);
        due("is(-1)", x.is(-1), BAD);
        x.forget(1);
        x.note(0, 3, 2, 0, 7);
        due("band", x.is(0), bits(BAND));
        x.forget(1);
        x.note(0, 3, 2, 3, 5);
        due("laugh", x.is(0), bits(LAUGH));
    }

    private static void look() {
        promise = "Promise 31";
        CountyTrick x = new CountyTrick();
        due("look(0)", x.look(0), BAD);
        x.show(PLAIN, 0, 5);
        x.show(PLAIN, 0, 3);
        due("two of six alike at best", x.look(0), 0);
        x.note(0, 1, 0, 1, 2);
        due("is(0)", x.is(0), bits(PLAIN, BAND, WEDDING));
        due("so far 6 tells a wedding", x.look(0), 6);
        x.note(0, 1, 0, 0, 2);
        due("plain or wedding", x.look(0), 6);
        x.note(1, 1, 0, 0, 2);
        due("loud 3 does not tell them", x.look(1), 0);
        x.note(0, 9, 9, 0, 9);
        due("one kind left", x.look(0), 0);
        x.note(0, 9, 9, 0, 0);
        due("no kind left", x.look(0), NONE);
        due("look(2)", x.look(2), BAD);
        due("look(-1)", x.look(-1), BAD);
    }

    private static void markWhat() {
        promise = "Promises 28, 32";
        CountyTrick x = new CountyTrick();
        due("no watcher", x.mark(0, 0, 0, 0), BAD);
        due("no watcher", x.what(0), BAD);
        x.watcher(PLAIN, 0);
        x.watcher(PLAIN, 0);
        due("any", x.what(0), 63);
        int[][] bad = {{2, 0, 0, 0}, {-1, 0, 0, 0}, {0, -1, 0, 0}, {0, 10, 0, 0}, {0, 0, -1, 0}, {0, 0, 41, 0}, {0, 0, 0, -1}, {0, 0, 0, 2}};
        for (int[] b : bad) {
            due("mark", x.mark(b[0], b[1], b[2], b[3]), BAD);
        }
        due("mark", x.mark(0, 0, 6, 1), 1);
        due("seen though drawn by 6", x.what(0), bits(PLAIN, STIFF, SURVEYOR));
        due("mark", x.mark(0, 0, 40, 0), 2);
        due("not by 40", x.what(0), bits(PLAIN, SURVEYOR));
        due("mark", x.mark(0, 9, 3, 1), 3);
        due("a surveyor", x.what(0), bits(SURVEYOR));
        due("another", x.what(1), 63);
        due("mark", x.mark(1, 5, 0, 0), 4);
        due("taught or old", x.what(1), bits(TAUGHT, OLD));
        due("mark", x.mark(1, 0, 4, 1), 5);
        due("both still", x.what(1), bits(TAUGHT, OLD));
        due("mark", x.mark(1, 0, 5, 1), 6);
        due("none", x.what(1), 0);
        due("mark", x.mark(1, 0, 5, 1), FULL);
        due("mark", x.mark(1, 0, 5, 2), BAD);
        due("count(8)", x.count(8), 6);
        due("what(2)", x.what(2), BAD);
        due("what(-1)", x.what(-1), BAD);
        x.forget(2);
        x.mark(0, 0, 5, 1);
        x.mark(0, 0, 6, 0);
        due("a child", x.what(0), bits(CHILD));
    }

    private static void tries() {
        promise = "Promise 33";
        CountyTrick x = new CountyTrick();
        due("tries(0)", x.tries(0), BAD);
        x.watcher(PLAIN, 0);
        due("three and three", x.tries(0), 6);
        x.mark(0, 0, 6, 1);
        due("plain, stiff, surveyor: 12 tells a plain one", x.tries(0), 12);
        x.mark(0, 0, 40, 0);
        due("plain, surveyor", x.tries(0), 12);
        x.mark(0, 0, 12, 0);
        due("one kind left", x.tries(0), 0);
        x.mark(0, 0, 12, 1);
        due("no kind left", x.tries(0), NONE);
        x.forget(2);
        x.mark(0, 5, 0, 0);
        due("taught or old, never told apart", x.tries(0), 0);
        x.forget(2);
        x.mark(0, 6, 0, 0);
        x.mark(0, 5, 0, 1);
        due("plain, child, stiff: the child goes first", x.tries(0), 6);
        x.mark(0, 0, 6, 1);
        due("plain, stiff", x.tries(0), 12);
        due("tries(1)", x.tries(1), BAD);
        due("tries(-1)", x.tries(-1), BAD);
    }

    private static void forget() {
        promise = "Promise 29";
        CountyTrick x = plainAt0();
        x.show(0, 0, 1);
        x.rest(1);
        x.saw(0, 1);
        x.note(0, 1, 0, 0, 2);
        x.note(0, 1, 0, 0, 2);
        x.mark(0, 0, 0, 1);
        x.mark(0, 0, 0, 1);
        x.mark(0, 0, 0, 1);
        due("forget(3)", x.forget(3), BAD);
        due("forget(-1)", x.forget(-1), BAD);
        due("forget(1)", x.forget(1), 2);
        due("forget(1)", x.forget(1), 0);
        due("count(6)", x.count(6), 1);
        due("count(8)", x.count(8), 3);
        due("forget(2)", x.forget(2), 3);
        due("forget(0)", x.forget(0), 1);
        due("where()", x.where(), ALL);
        due("count(9)", x.count(9), 1);
        due("saw", x.saw(0, 0), 1);
    }

    private static void game() {
        promise = "Promise 34";
        CountyTrick x = plainAt0();
        due("hide and seek", x.game(0, 0, 29), 0);
        due("seen from everywhere", x.game(0, 0, 1), 15);
        x.show(WEDDING, 0, 9);
        due("blind in a", x.game(0, 0, 29), bits(0, 2));
        due("blind in b", x.game(0, 29, 0), bits(1, 3));
        x.moves(0, 29);
        due("blind in b", x.game(0, 0, 29), bits(1, 3));
        x.turns(0, 0);
        due("not on", x.game(0, 0, 29), 0);
        x.watcher(STIFF, 14);
        x.watcher(SURVEYOR, 14);
        x.turns(0, 1);
        x.moves(0, 11);
        due("from 0 all is seen, from 11 nothing", x.game(2, 0, 11), bits(0, 1));
        due("from 11 nothing, from 0 all", x.game(2, 11, 0), bits(2, 3));
        x.turns(0, 0);
        due("another watcher", x.game(2, 0, 29), 15);
        due("where one stands", x.about(0, 1), 0);
        due("game(3, 0, 1)", x.game(3, 0, 1), BAD);
        due("game(-1, 0, 1)", x.game(-1, 0, 1), BAD);
        due("game(0, 30, 1)", x.game(0, 30, 1), BAD);
        due("game(0, -1, 1)", x.game(0, -1, 1), BAD);
        due("game(0, 0, 30)", x.game(0, 0, 30), BAD);
        due("game(0, 0, -1)", x.game(0, 0, -1), BAD);
        due("game(0, 5, 5)", x.game(0, 5, 5), BAD);
        due("status(0)", x.status(0), 7);
    }

    private static void failsBy(CountyTrick x, int cell, int c, long above, long below) {
        due("fails(" + cell + ", " + c + ")", x.fails(cell, c), 1);
        due("above", x.part(0), above);
        due("below", x.part(1), below);
    }

    private static void fails() {
        promise = "Promise 35";
        CountyTrick x = plainAt0();
        failsBy(x, 0, 4, 1, 1);
        failsBy(x, 29, 4, 0, 1);
        x.show(PLAIN, 0, 6);
        x.show(PLAIN, 0, 9);
        failsBy(x, 0, 3, 9, 100);
        failsBy(x, 0, 5, 1, 4);
        failsBy(x, 0, 0, 0, 1);
        failsBy(x, 0, 10, 1, 1);
        x.turns(1, 0);
        failsBy(x, 0, 3, 3, 10);
        x.watcher(STIFF, 0);
        failsBy(x, 0, 3, 13, 10);
        x.turns(1, 1);
        x.show(PLAIN, 0, 1);
        x.show(PLAIN, 0, 1);
        x.show(PLAIN, 0, 1);
        failsBy(x, 0, 1, 101, 100);
        failsBy(x, 5, 3, 100243, 100000);
        due("on", x.count(4), 5);
        long[] before = all(x);
        due("fails(30, 0)", x.fails(30, 0), BAD);
        due("fails(-1, 0)", x.fails(-1, 0), BAD);
        due("fails(0, 11)", x.fails(0, 11), BAD);
        due("fails(0, -1)", x.fails(0, -1), BAD);
        same("fails refused", x, before);
    }

    private static void years() {
        promise = "Promise 36";
        CountyTrick x = plainAt0();
        // by seed 1 the cells are 8, 28, 3, 25, 1, 17, 0, 9, 12, 6
        int[] seen = {0, 1, 1, 2, 3, 4, 4, 5, 6, 7, 8};
        for (int n = 0; n <= 10; n++) {
            due("years(1, " + n + ")", x.years(1, n), seen[n]);
        }
        due("count(2)", x.count(2), 0);
        due("done", x.count(3), 0);
        due("knows", x.count(5), 0);
        x.show(LANTERN, 0, 9);
        due("hidden from 6 on", x.years(1, 10), 4);
        x.rest(5);
        due("hidden", x.years(1, 7), 1);
        due("the next day", x.years(1, 8), 2);
        for (int i = 0; i < 101; i++) {
            x.rest(99);
        }
        due("9999 is 3 of a day", x.years(1, 5), 2);
        x.land();
        x.watcher(SURVEYOR, 3);
        x.watcher(SURVEYOR, 29);
        due("all together", x.years(999999, 60), 120);
        due("years(0, 0)", x.years(0, 0), 0);
        due("years(-1, 0)", x.years(-1, 0), BAD);
        due("years(1000000, 0)", x.years(1000000, 0), BAD);
        due("years(0, -1)", x.years(0, -1), BAD);
        due("years(0, 61)", x.years(0, 61), BAD);
    }

    private static void part() {
        promise = "Promise 37";
        CountyTrick x = plainAt0();
        x.show(PLAIN, 0, 9);
        x.fails(0, 6);
        due("part(0)", x.part(0), 3);
        due("part(1)", x.part(1), 5);
        due("part(2)", x.part(2), BAD);
        due("part(-1)", x.part(-1), BAD);
        due("status(0)", x.status(0), 2);
    }

    private static void images() {
        promise = "Promises 38, 39";
        CountyTrick x = plainAt0();
        x.show(BAND, 3, 4);
        x.saw(1, 1);
        x.note(0, 1, 0, 0, 2);
        x.mark(0, 0, 0, 1);
        x.does(0);
        x.turns(0, 0);
        long digest = x.digest();
        due("from(0)", x.from(0), NO);
        due("image(0)", x.image(0), 1);
        due("from(1)", x.from(1), NO);
        x.undo();
        x.undo();
        x.watcher(STIFF, 4);
        x.show(FIRE, 4, 4);
        x.moves(0, 20);
        x.forget(0);
        x.note(1, 2, 2, 2, 2);
        x.forget(2);
        due("image(1)", x.image(1), 1);
        long other = x.digest();
        due("from(0)", x.from(0), 1);
        due("digest()", x.digest(), digest);
        due("where()", x.where(), ALL & ~FAR_FROM_0);
        due("what may be undone is kept", x.undo(), 1);
        due("of(0, 3)", x.of(0, 3), 1);
        due("and the doing", x.undo(), 0);
        due("knows", x.count(5), 0);
        due("from(0) once more", x.from(0), 1);
        due("digest()", x.digest(), digest);
        due("from(1)", x.from(1), 1);
        due("digest()", x.digest(), other);
        x.type(50);
        x.fails(0, 10);
        due("from(0)", x.from(0), 1);
        due("the text stays", x.count(10), 1);
        due("the fraction stays", x.part(0), 2);
        due("image(2)", x.image(2), BAD);
        due("image(-1)", x.image(-1), BAD);
        due("from(2)", x.from(2), BAD);
        due("from(-1)", x.from(-1), BAD);
        due("the status stays", x.status(0), 4);
        due("the status stays", x.status(1), 2);
        x.land();
        due("image(0), anew", x.image(0), 1);
        x.from(1);
        x.from(0);
        due("count(0)", x.count(0), 0);
        imagesApart();
    }

    /** What comes behind an image touches nothing of it, not what may be undone, nor a row of notes. */
    private static void imagesApart() {
        CountyTrick x = new CountyTrick();
        x.watcher(STIFF, 14);
        x.show(LAUGH, 3, 4);
        x.mark(0, 1, 2, 1);
        x.moves(0, 9);
        x.does(14);
        long digest = x.digest();
        x.image(0);
        x.land();
        x.watcher(OLD, 2);
        x.show(FIRE, 6, 6);
        x.mark(0, 3, 4, 0);
        x.moves(0, 10);
        x.turns(0, 0);
        x.sends(0, 20);
        x.from(0);
        due("digest()", x.digest(), digest);
        due("undo()", x.undo(), 0);
        due("of(0, 1)", x.of(0, 1), 9);
        due("undo()", x.undo(), 0);
        due("of(0, 1)", x.of(0, 1), 3);
        due("about(0, 0)", x.about(0, 0), STIFF);
        due("about(0, 1)", x.about(0, 1), 14);
        due("what(0)", x.what(0), bits(PLAIN, CHILD, STIFF, SURVEYOR, TAUGHT, OLD));
    }

    private static void status() {
        promise = "Promise 40";
        CountyTrick x = new CountyTrick();
        x.does(30);
        x.undo();
        x.undo();
        due("status(3)", x.status(3), -1);
        due("status(-1)", x.status(-1), -1);
        due("status(0)", x.status(0), 3);
        due("status(1)", x.status(1), 2);
        due("status(2)", x.status(2), 0);
        x.read();
        x.plan(11, 4);
        x.plan(1, 4);
        x.part(2);
        x.count(11);
        due("status(0)", x.status(0), 6);
        x.land();
        due("status(0)", x.status(0), 6);
        x.watcher(0, 0);
        x.drawn(0, 0);
        x.when(0);
        x.enough(0);
        x.plan(11, 0);
        due("none is no refusal", x.status(0) + x.status(1) + x.status(2), 8);
        for (int i = 0; i < 7; i++) {
            x.saw(0, 0);
        }
        due("status(2)", x.status(2), 1);
    }

    private static void count() {
        promise = "Promise 41";
        CountyTrick x = plainAt0();
        x.watcher(PLAIN, 1);
        x.show(0, 29, 1);
        x.show(0, 29, 1);
        x.show(0, 29, 1);
        x.turns(1, 0);
        x.does(0);
        x.does(0);
        x.does(29);
        x.rest(10);
        for (int i = 0; i < 4; i++) {
            x.saw(0, 0);
        }
        for (int i = 0; i < 5; i++) {
            x.note(0, 1, 1, 1, 1);
        }
        for (int i = 0; i < 6; i++) {
            x.mark(0, 1, 1, 1);
        }
        type(x, "1234567");
        int[] want = {3, 2, 13, 3, 2, 4, 4, 5, 6, 5, 7};
        for (int i = 0; i <= 10; i++) {
            due("count(" + i + ")", x.count(i), want[i]);
        }
        due("count(11)", x.count(11), BAD);
        due("count(-1)", x.count(-1), BAD);
        due("status(0)", x.status(0), 2);
    }

    private static void digest() {
        promise = "Promise 42";
        CountyTrick x = new CountyTrick();
        x.show(3, 5, 7);
        x.show(1, 29, 2);
        x.watcher(2, 10);
        x.watcher(5, 29);
        x.does(10);
        x.turns(0, 0);
        x.rest(4);
        x.saw(11, 2);
        x.note(1, 9, 8, 7, 6);
        x.note(0, 1, 2, 3, 4);
        x.mark(1, 9, 40, 1);
        x.fails(10, 5);
        x.type(9);
        long above = x.part(0);
        long below = x.part(1);
        due("digest()", x.digest(), mix(2, 2, 5, 1, 1, 1, 1, 2, 1, 3, 1, 3, 5, 7, 0, 1, 29, 2, 1, 2, 10, 1, 5, 29, 0,
            11, 2, 1, 9, 8, 7, 6, 0, 1, 2, 3, 4, 1, 9, 40, 1, above, below));
        due("above", above, 3);
        due("below", below, 2);
    }

    /** A loud band hides on even steps alone: what is asked for now is asked of the step that is now. */
    private static void nowIsNow() {
        promise = "Promises 8, 17, 18, 21, 22, 24, 34, 35, now";
        CountyTrick x = plainAt0();
        x.show(BAND, 0, 5);
        for (int odd = 0; odd <= 1; odd++) {
            due("drawn(0, 1)", x.drawn(0, 1), odd == 0 ? 13 : 10);
            due("sees(0, 0)", x.sees(0, 0), odd);
            due("sees(NONE, 0)", x.sees(NONE, 0), odd);
            due("enough(0)", x.enough(0), odd == 0 ? 1 : NONE);
            due("place(0, 0, 1)", x.place(0, 0, 1), odd);
            due("guard(0, 0)", x.guard(0, 0), odd == 0 ? 23 : 22);
            due("guard(0, 1)", x.guard(0, 1), odd == 0 ? 13 : 23);
            due("game(0, 0, 29)", x.game(0, 0, 29), odd == 0 ? bits(0, 2) : 0);
            failsBy(x, 0, 0, odd, 1);
            due("does(0)", x.does(0), odd);
        }
        due("knows", x.about(0, 2), 1);
        type(x, "land;show 1 0 5;watcher 0 0;do 0;do 0;do 0;");
        x.read();
        due("knows, by the text", x.about(0, 2), 1);
    }

    /** Any numbers, in any state: answers as for wrong ones, nothing thrown. */
    private static void extremes() {
        promise = "All promises";
        int[] odd = {Integer.MIN_VALUE, -3, 61, 99, Integer.MAX_VALUE};
        CountyTrick[] objects = {new CountyTrick(), plainAt0()};
        objects[1].show(0, 0, 1);
        for (CountyTrick x : objects) {
            long[] before = all(x);
            for (int o : odd) {
                long sum = x.show(o, o, o) + x.watcher(o, o) + x.type(o == 61 || o == 99 ? -o : o) + x.does(o)
                    + x.rest(o == 61 || o == 99 ? -o : o) + x.moves(o, o) + x.turns(o, o) + x.sends(o, o) + x.of(o, o) + x.about(o, o)
                    + x.pull(o, o) + x.drawn(o, o) + x.sees(o, o) + x.unseen(o) + x.when(o) + x.enough(o) + x.place(o, o, o)
                    + x.guard(o, o) + x.saw(o, o) + x.note(o, o, o, o, o) + x.mark(o, o, o, o) + x.forget(o) + x.is(o) + x.look(o)
                    + x.what(o) + x.tries(o) + x.game(o, o, o) + x.fails(o, o) + x.years(o, o) + x.part(o) + x.image(o) + x.from(o)
                    + x.count(o);
                due("33 calls by " + o, sum, 33 * BAD);
            }
            same("wrong numbers", x, before);
        }
    }
}
