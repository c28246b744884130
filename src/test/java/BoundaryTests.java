import java.lang.annotation.Retention;
import java.lang.annotation.RetentionPolicy;
import java.lang.reflect.Method;
import java.nio.charset.StandardCharsets;
import java.nio.file.Files;
import java.nio.file.Path;
import java.util.ArrayList;
import java.util.Comparator;
import java.util.List;

/**
 * Each sentence of the document that names a boundary (too small, too large, empty, full, a wrap-around, a refused
 * call) by a test of its own, which bears the sentence. The words are looked up in the document, so none drifts from it.
 */
public final class BoundaryTests {
    private static final int PLAIN = 0, BAND = 1, WEDDING = 2, FIRE = 3, LANTERN = 4, LAUGH = 5;
    private static final int CHILD = 1, STIFF = 2, SURVEYOR = 3, TAUGHT = 4, OLD = 5;
    private static final int NONE = CountyTrick.NONE, BAD = CountyTrick.BAD, NO = CountyTrick.NO, FULL = CountyTrick.FULL;
    private static final int LEAST = Integer.MIN_VALUE, MOST = Integer.MAX_VALUE;
    private static final int ALL = (1 << 30) - 1, ALL_KINDS = 63;
    /** The cell that is so far from cell 0. */
    private static final int[] OFF_0 = {0, 1, 2, 3, 4, 5, 11, 17, 23, 29};
    /** The cells that are so far (6 and more) from cell 0 that a plain watcher there notes nothing in them. */
    private static final int FAR_FROM_0 = bits(11, 16, 17, 21, 22, 23, 26, 27, 28, 29);
    /** The cells that are so near (3 and less) to cell 0 that a plain watcher in cell 29 notes nothing in them. */
    private static final int NEAR_0 = bits(0, 1, 2, 3, 6, 7, 8, 12, 13, 18);

    @Retention(RetentionPolicy.RUNTIME)
    private @interface Says {
        /** The heading under which the words stand; Terms: ahead of the promises. */
        String where();

        String words();
    }

    private interface Call {
        long on(CountyTrick x);
    }

    private static int wrong = 0;
    private static String sentence = "";

    public static void main(String[] args) throws Exception {
        List<Method> tests = new ArrayList<>();
        for (Method m : BoundaryTests.class.getDeclaredMethods()) {
            if (m.isAnnotationPresent(Says.class)) {
                tests.add(m);
            }
        }
        tests.sort(Comparator.comparing((Method m) -> m.getAnnotation(Says.class).where()).thenComparing(Method::getName));
        for (Method test : tests) {
            Says says = test.getAnnotation(Says.class);
            sentence = says.where() + ", " + test.getName() + " (" + says.words() + ")";
            test.invoke(null);
        }
        standInTheDocument(tests);
        System.out.println(wrong == 0 ? tests.size() + " sentences of boundaries hold" : wrong + " answers are not as due");
        if (wrong != 0) {
            System.exit(1);
        }
    }

    private static void standInTheDocument(List<Method> tests) throws Exception {
        Path file = Path.of("../shared/DOC.md");
        if (!Files.exists(file)) {
            return;
        }
        String document = Files.readString(file, StandardCharsets.UTF_8);
        int promises = document.indexOf("## Promise 1:");
        for (Method test : tests) {
            Says says = test.getAnnotation(Says.class);
            int from = says.where().equals("Terms") ? 0 : document.indexOf("## " + says.where() + ":");
            int to = says.where().equals("Terms") ? promises : document.indexOf("\n## ", from + 1);
            if (from < 0 || to < 0 || !document.substring(from, to).contains(says.words())) {
                wrong++;
                System.out.println("not in the document: " + says.where() + ", " + says.words());
            }
        }
    }

    // ---- what the tests share

    private static void due(String call, long got, long want) {
        if (got != want) {
            wrong++;
            System.out.println(sentence + ": " + call + " answered " + got + ", due is " + want);
        }
    }

    private static int bits(int... places) {
        int all = 0;
        for (int p : places) {
            all |= 1 << p;
        }
        return all;
    }

    /** All that can be told of an object by few calls: the digest, the three numbers of STATUS. */
    private static long[] state(CountyTrick x) {
        return new long[] {x.status(0), x.status(1), x.status(2), x.digest()};
    }

    private static void stays(String call, CountyTrick x, long[] before) {
        String[] names = {"status(0)", "status(1)", "status(2)", "digest()"};
        long[] after = state(x);
        for (int i = 0; i < after.length; i++) {
            due(names[i] + " behind " + call, after[i], before[i]);
        }
    }

    /** A call that is refused changes nothing but the STATUS that is its own. */
    private static void refuses(CountyTrick x, int as, long answer, String call, Call c) {
        long[] before = state(x);
        before[as == BAD ? 0 : as == NO ? 1 : 2]++;
        due(call, c.on(x), answer);
        stays(call, x, before);
    }

    private static void bad(CountyTrick x, String call, Call c) {
        refuses(x, BAD, BAD, call, c);
    }

    private static void full(CountyTrick x, String call, Call c) {
        refuses(x, FULL, FULL, call, c);
    }

    /** A call that only asks changes nothing at all. */
    private static void asks(CountyTrick x, String call, Call c, long answer) {
        long[] before = state(x);
        due(call, c.on(x), answer);
        stays(call, x, before);
    }

    /** Watchers, each by a kind and a cell. */
    private static CountyTrick watchers(int... kindsAndCells) {
        CountyTrick x = new CountyTrick();
        for (int i = 0; i < kindsAndCells.length; i += 2) {
            x.watcher(kindsAndCells[i], kindsAndCells[i + 1]);
        }
        return x;
    }

    private static CountyTrick plainAt0() {
        return watchers(PLAIN, 0);
    }

    /** One of each: show 0, watcher 0, something seen, noted, marked, done, told, a fraction that is not whole. */
    private static CountyTrick furnished() {
        CountyTrick x = plainAt0();
        x.show(PLAIN, 0, 9);
        x.fails(0, 3);
        x.saw(4, 1);
        x.note(0, 1, 0, 0, 2);
        x.mark(0, 0, 0, 1);
        x.turns(0, 0);
        x.does(0);
        x.type('l');
        return x;
    }

    private static CountyTrick fullOfShows() {
        CountyTrick x = new CountyTrick();
        for (int s = 0; s < 5; s++) {
            x.show(PLAIN, 0, 9);
        }
        return x;
    }

    private static CountyTrick fullOfShowsAndOne() {
        CountyTrick x = fullOfShows();
        x.watcher(PLAIN, 29);
        return x;
    }

    private static CountyTrick fullOfWatchers() {
        return watchers(PLAIN, 0, PLAIN, 0, PLAIN, 0, PLAIN, 0, PLAIN, 0, PLAIN, 0);
    }

    private static CountyTrick rested(CountyTrick x, int steps) {
        for (int left = steps; left > 0; left -= 99) {
            x.rest(Math.min(99, left));
        }
        return x;
    }

    private static void type(CountyTrick x, String text) {
        x.clear();
        for (char c : text.toCharArray()) {
            x.type(c);
        }
    }

    /** The text is read on a new object: so many items. */
    private static CountyTrick reads(String text, int items) {
        CountyTrick x = new CountyTrick();
        type(x, text);
        due("read() of '" + text + "'", x.read(), items);
        due("status(0) behind '" + text + "'", x.status(0), 0);
        return x;
    }

    /** The text has a FAULT in this place: all stays, STATUS too. */
    private static void faults(String text, int place) {
        CountyTrick x = furnished();
        type(x, text);
        asks(x, "read() of '" + text + "'", CountyTrick::read, -10 - place);
        due("undo() behind '" + text + "'", x.undo(), 0);
    }

    private static void pulls(int kind, int loud, int f, int step, int want) {
        CountyTrick x = rested(plainAt0(), step);
        x.show(kind, OFF_0[f], loud);
        due("kind " + kind + " loud " + loud + " so far " + f + " on STEP " + step, x.pull(0, 0), want);
    }

    /** A watcher of a kind in cell 0, a doing so far off, a PLAIN show so loud there that it PULLS by p. */
    private static void seesBy(int kind, int f, int p, int want) {
        CountyTrick x = watchers(kind, 0);
        if (p > 0) {
            x.show(PLAIN, p % 2, (p + 1) / 2);
        }
        due("kind " + kind + " so far " + f + " with PULL " + p, x.sees(0, OFF_0[f]), want);
    }

    /** Drawn by a PULL of p (even), by so much. */
    private static void drawnBy(int kind, int p, int want) {
        CountyTrick x = watchers(kind, 0);
        if (p > 0) {
            x.show(PLAIN, 0, p / 2);
        }
        due("kind " + kind + " drawn by PULL " + p, x.drawn(0, 1), want);
    }

    private static void fraction(CountyTrick x, int cell, int c, long above, long below) {
        due("fails(" + cell + ", " + c + ")", x.fails(cell, c), 1);
        due("above, by " + c, x.part(0), above);
        due("below, by " + c, x.part(1), below);
    }

    // ---- Terms: cells, steps, shows, watchers

    @Says(where = "Terms", words = "An object is used for at most 512 calls")
    private static void theLastCallCountsToo() {
        CountyTrick x = plainAt0();
        for (int i = 2; i <= 511; i++) {
            due("call " + i, x.does(0), 1);
        }
        due("call 512", x.count(3), 510);
    }

    @Says(where = "Terms", words = "FAR: by how many rows and columns two are off, together.")
    private static void farDoesNotWrapAtARowsEnd() {
        int[][] far = {{0, 0, 0}, {29, 29, 0}, {0, 29, 9}, {29, 0, 9}, {5, 24, 9}, {24, 5, 9}, {5, 6, 6}, {6, 5, 6}, {11, 12, 6},
            {23, 24, 6}, {0, 5, 5}, {0, 24, 4}, {0, 6, 1}, {0, 7, 2}, {14, 15, 1}, {29, 24, 5}, {5, 29, 4}};
        for (int[] f : far) {
            CountyTrick x = watchers(PLAIN, f[0]);
            x.show(PLAIN, f[1], 9);
            due("18 less FAR, " + f[0] + " to " + f[1], x.pull(0, 0), 18 - f[2]);
        }
    }

    @Says(where = "Terms", words = "STEPS of a day 0 .. 11 (STEP s: that by 12 left over)")
    private static void theDayBeginsAnewBehind11() {
        int[][] steps = {{0, 0}, {5, 0}, {6, 10}, {11, 4}, {12, 0}, {17, 0}, {18, 10}, {23, 4}, {24, 0}, {119, 4}, {120, 0}};
        for (int[] s : steps) {
            pulls(LANTERN, 1, 0, s[0], s[1]);
        }
    }

    @Says(where = "Terms", words = "STEPS have numbers, 0 at first (9999 at most).")
    private static void theLastStepIs9999() {
        due("at first", new CountyTrick().count(2), 0);
        CountyTrick x = rested(plainAt0(), 9998);
        due("count(2)", x.count(2), 9998);
        x.does(0);
        due("count(2)", x.count(2), 9999);
        x.does(0);
        x.rest(1);
        due("count(2)", x.count(2), 9999);
        x.show(LANTERN, 0, 9);
        due("9999 is 3 of its day", x.pull(0, 0), 0);
    }

    @Says(where = "Terms", words = "SHOWS 0 .. 4, as they come: a KIND, a CELL, how LOUD (1 .. 9); ON or not (on at first).")
    private static void aShowIsOnAtFirst() {
        CountyTrick x = new CountyTrick();
        for (int round = 0; round < 2; round++) {
            for (int s = 0; s < 5; s++) {
                due("number", x.show(s + round, 29 * round, 1 + 8 * round), s);
                int[] told = {s + round, 29 * round, 1 + 8 * round, 1};
                for (int part = 0; part < 4; part++) {
                    due("of(" + s + ", " + part + ")", x.of(s, part), told[part]);
                }
                x.turns(s, 0);
            }
            x.land();
        }
    }

    @Says(where = "Terms", words = "WATCHERS 0 .. 5, as they come: a KIND, a CELL; KNOWS: how many doings one saw (0 at first).")
    private static void aWatcherKnowsNothingAtFirst() {
        CountyTrick x = new CountyTrick();
        for (int round = 0; round < 2; round++) {
            for (int w = 0; w < 6; w++) {
                due("number", x.watcher(round == 0 ? w : 5 - w, 29 * round), w);
                int[] told = {round == 0 ? w : 5 - w, 29 * round, 0};
                for (int part = 0; part < 3; part++) {
                    due("about(" + w + ", " + part + ")", x.about(w, part), told[part]);
                }
            }
            x.does(29 * round);
            due("KNOWS then", x.count(5), 6);
            x.land();
        }
    }

    @Says(where = "Terms", words = "DONE: how many (0 at first).")
    private static void nothingIsDoneAtFirst() {
        CountyTrick x = new CountyTrick();
        due("count(3)", x.count(3), 0);
        x.does(0);
        due("count(3)", x.count(3), 1);
    }

    // ---- Terms: kinds of shows

    @Says(where = "Terms", words = "0 PLAIN: twice l, less f, 0 at least.")
    private static void plainIs0AtLeast() {
        pulls(PLAIN, 1, 0, 0, 2);
        pulls(PLAIN, 1, 1, 0, 1);
        pulls(PLAIN, 1, 2, 0, 0);
        pulls(PLAIN, 1, 3, 0, 0);
        pulls(PLAIN, 1, 9, 0, 0);
        pulls(PLAIN, 4, 9, 0, 0);
        pulls(PLAIN, 5, 9, 0, 1);
        pulls(PLAIN, 9, 9, 1, 9);
        pulls(PLAIN, 9, 0, 7, 18);
    }

    @Says(where = "Terms", words = "1 BAND (under PLAIN): PLAIN and 3 on STEPS of an even number, else as PLAIN.")
    private static void aBandIsLouderOnEvenSteps() {
        pulls(BAND, 9, 0, 0, 21);
        pulls(BAND, 9, 0, 1, 18);
        pulls(BAND, 9, 0, 10, 21);
        pulls(BAND, 9, 0, 11, 18);
        pulls(BAND, 9, 0, 12, 21);
        pulls(BAND, 9, 0, 13, 18);
        pulls(BAND, 1, 9, 0, 3);
        pulls(BAND, 1, 9, 1, 0);
        pulls(BAND, 1, 1, 0, 4);
        pulls(BAND, 9, 6, 2, 15);
    }

    @Says(where = "Terms", words = "2 WEDDING (under PLAIN): as PLAIN, but 0, if f is above 5.")
    private static void aWeddingIsNotHeardBeyond5() {
        pulls(WEDDING, 9, 4, 0, 14);
        pulls(WEDDING, 9, 5, 0, 13);
        pulls(WEDDING, 9, 6, 0, 0);
        pulls(WEDDING, 9, 9, 0, 0);
        pulls(WEDDING, 1, 5, 0, 0);
    }

    @Says(where = "Terms", words = "3 FIRE (under BAND): twice BAND, 30 at most.")
    private static void aFireIs30AtMost() {
        pulls(FIRE, 6, 1, 0, 28);
        pulls(FIRE, 6, 0, 0, 30);
        pulls(FIRE, 7, 1, 0, 30);
        pulls(FIRE, 9, 0, 0, 30);
        pulls(FIRE, 7, 0, 1, 28);
        pulls(FIRE, 8, 1, 1, 30);
        pulls(FIRE, 8, 0, 1, 30);
        pulls(FIRE, 1, 9, 0, 6);
        pulls(FIRE, 1, 9, 1, 0);
        pulls(FIRE, 5, 6, 1, 8);
    }

    @Says(where = "Terms", words = "4 LANTERN (under FIRE): FIRE from STEP 6 on, else 0.")
    private static void aLanternPullsFromStep6On() {
        for (int t = 0; t <= 5; t++) {
            pulls(LANTERN, 3, 0, t, 0);
        }
        int[] from6 = {18, 12, 18, 12, 18, 12};
        for (int t = 6; t <= 11; t++) {
            pulls(LANTERN, 3, 0, t, from6[t - 6]);
        }
        pulls(LANTERN, 9, 0, 6, 30);
        pulls(LANTERN, 9, 0, 12, 0);
        pulls(LANTERN, 1, 9, 6, 6);
    }

    @Says(where = "Terms", words = "5 LAUGH (under WEDDING): 1 more than WEDDING, if that is 1 or more.")
    private static void aLaughIs1MoreThan1OrMore() {
        pulls(LAUGH, 1, 0, 0, 3);
        pulls(LAUGH, 1, 1, 0, 2);
        pulls(LAUGH, 1, 2, 0, 0);
        pulls(LAUGH, 1, 3, 0, 0);
        pulls(LAUGH, 3, 5, 0, 2);
        pulls(LAUGH, 9, 5, 1, 14);
        pulls(LAUGH, 9, 6, 0, 0);
    }

    // ---- Terms: kinds of watchers

    @Says(where = "Terms", words = "0 PLAIN: 12 less twice f, 0 at least; p.")
    private static void aPlainWatcherNotes0AtLeast() {
        for (int f = 0; f <= 9; f++) {
            seesBy(PLAIN, f, 0, f <= 5 ? 1 : 0);
        }
        seesBy(PLAIN, 0, 11, 1);
        seesBy(PLAIN, 0, 12, 0);
        seesBy(PLAIN, 5, 1, 1);
        seesBy(PLAIN, 5, 2, 0);
        drawnBy(PLAIN, 0, 0);
        drawnBy(PLAIN, 18, 18);
        seesBy(SURVEYOR, 9, 3, 1);
    }

    @Says(where = "Terms", words = "1 CHILD (under PLAIN): as PLAIN; twice PLAIN.")
    private static void aChildIsDrawnTwice() {
        seesBy(CHILD, 5, 0, 1);
        seesBy(CHILD, 6, 0, 0);
        seesBy(CHILD, 0, 5, 1);
        seesBy(CHILD, 0, 6, 0);
        drawnBy(CHILD, 0, 0);
        drawnBy(CHILD, 18, 36);
    }

    @Says(where = "Terms", words = "2 STIFF (under PLAIN): as PLAIN; 0.")
    private static void aStiffNeckIsNeverDrawn() {
        seesBy(STIFF, 5, 18, 1);
        seesBy(STIFF, 6, 0, 0);
        drawnBy(STIFF, 0, 0);
        drawnBy(STIFF, 18, 0);
    }

    @Says(where = "Terms", words = "3 SURVEYOR (under PLAIN): PLAIN and 4; as PLAIN.")
    private static void aSurveyorNotes4AtLeast() {
        for (int f = 6; f <= 9; f++) {
            seesBy(SURVEYOR, f, 3, 1);
            seesBy(SURVEYOR, f, 4, 0);
        }
        seesBy(SURVEYOR, 5, 5, 1);
        seesBy(SURVEYOR, 5, 6, 0);
        seesBy(SURVEYOR, 0, 15, 1);
        seesBy(SURVEYOR, 0, 16, 0);
        drawnBy(SURVEYOR, 18, 18);
    }

    @Says(where = "Terms", words = "4 TAUGHT (under CHILD): as CHILD; 2 more than CHILD.")
    private static void aTaughtOneIsDrawnBy2Unpulled() {
        drawnBy(TAUGHT, 0, 2);
        drawnBy(TAUGHT, 2, 6);
        drawnBy(TAUGHT, 18, 38);
        seesBy(TAUGHT, 4, 0, 1);
        seesBy(TAUGHT, 5, 0, 0);
        seesBy(TAUGHT, 0, 4, 1);
        seesBy(TAUGHT, 0, 5, 0);
    }

    @Says(where = "Terms", words = "5 OLD (under TAUGHT): half (cut up) of TAUGHT; half (cut) of TAUGHT.")
    private static void anOldOneIsDrawnBy1Unpulled() {
        drawnBy(OLD, 0, 1);
        drawnBy(OLD, 2, 3);
        drawnBy(OLD, 18, 19);
        seesBy(OLD, 4, 0, 1);
        seesBy(OLD, 5, 0, 0);
        seesBy(OLD, 0, 4, 1);
        seesBy(OLD, 0, 5, 0);
    }

    @Says(where = "Terms", words = "if it NOTES it better (more) than it is DRAWN by the greatest PULL of all SHOWS that are ON (0: none).")
    private static void asMuchIsNotMore() {
        CountyTrick x = plainAt0();
        asks(x, "no show at all", y -> y.sees(0, 5), 1);
        x.show(PLAIN, 0, 1);
        x.show(PLAIN, 0, 6);
        x.show(PLAIN, 0, 2);
        asks(x, "12 against the greatest, 12", y -> y.sees(0, 0), 0);
        x.turns(1, 0);
        asks(x, "12 against the greatest that is ON, 4", y -> y.sees(0, 0), 1);
        asks(x, "so far 4: 4 against 4", y -> y.sees(0, 4), 0);
        asks(x, "so far 3: 6 against 4", y -> y.sees(0, 3), 1);
        x.turns(0, 0);
        x.turns(2, 0);
        asks(x, "none ON", y -> y.sees(0, 5), 1);
    }

    @Says(where = "Terms", words = "DOING: who SEES it KNOWS one more; DONE is one more; the STEP is one more.")
    private static void doingTakesOneOfEach() {
        CountyTrick x = watchers(PLAIN, 0, PLAIN, 29);
        x.show(BAND, 0, 5);
        due("does(0), on an even STEP", x.does(0), 0);
        due("does(0), on an odd one", x.does(0), 1);
        int[] want = {1, 2, 2, 2, 1, 1};
        for (int i = 0; i < want.length; i++) {
            due("count(" + i + ")", x.count(i), want[i]);
        }
        due("who saw it", x.about(0, 2), 1);
        due("who did not", x.about(1, 2), 0);
    }

    @Says(where = "Terms", words = "RESTING: the STEP alone is one more.")
    private static void restingTakesTheStepAlone() {
        CountyTrick x = furnished();
        CountyTrick y = furnished();
        x.rest(1);
        y.does(0);
        due("the STEP", x.count(2), 2);
        due("DONE", x.count(3), 1);
        due("KNOWS", x.count(5), 1);
        due("KNOWS by a doing", y.count(5), 2);
        due("of(0, 3)", x.of(0, 3), 0);
    }

    // ---- Terms: the land's text

    @Says(where = "Terms", words = "THE LAND is told by a TEXT (150 bytes at most) of ITEMS, each ended by ;")
    private static void theTextMayHave150Bytes() {
        String blanks = " ".repeat(145);
        reads("land" + blanks + ";", 1);
        reads(blanks + "land;", 1);
        reads("land;" + blanks, 1);
        reads("land;" + " ".repeat(139) + "do 29;", 2);
        faults("land;" + " ".repeat(140) + "do 29", 150);
        faults("land;" + " ".repeat(144) + ";", 149);
        faults("land" + blanks + "x", 149);
        reads("land;" + "do 1;".repeat(29), 30);
        CountyTrick over = new CountyTrick();
        type(over, "land;" + " ".repeat(144) + ";;");
        due("a byte beyond 150 is no part of it", over.read(), -159);
    }

    @Says(where = "Terms", words = "land (once, first of all)")
    private static void landAloneIsEnough() {
        CountyTrick x = reads("land;", 1);
        for (int i = 0; i <= 9; i++) {
            due("count(" + i + ")", x.count(i), 0);
        }
        faults("land;land;", 5);
    }

    @Says(where = "Terms", words = "show KIND CELL LOUD")
    private static void theTextsShowHasItsBounds() {
        CountyTrick x = reads("land;show 0 0 1;show 5 29 9;", 3);
        due("of(1, 0)", x.of(1, 0), 5);
        due("of(1, 1)", x.of(1, 1), 29);
        due("of(1, 2)", x.of(1, 2), 9);
        due("of(1, 3)", x.of(1, 3), 1);
        due("of(0, 2)", x.of(0, 2), 1);
        faults("land;show 6 0 1;", 10);
        faults("land;show 0 30 1;", 12);
        faults("land;show 0 0 0;", 14);
        faults("land;show 0 0 10;", 14);
    }

    @Says(where = "Terms", words = "off s (not ON)")
    private static void theTextsOffIsOfAShowThatIsThere() {
        CountyTrick x = reads("land;show 0 0 1;show 0 0 2;show 0 0 3;off 0;off 2;off 2;", 7);
        for (int s = 0; s < 3; s++) {
            due("of(" + s + ", 3)", x.of(s, 3), s == 1 ? 1 : 0);
        }
        due("count(4)", x.count(4), 1);
        due("in the last CELL", reads("land;show 5 29 9;off 0;", 3).of(0, 3), 0);
        due("of the last SHOW", reads("land;" + "show 0 29 1;".repeat(5) + "off 4;", 7).of(4, 3), 0);
        faults("land;off 0;", 9);
        faults("land;show 0 0 1;off 1;", 20);
    }

    @Says(where = "Terms", words = "watcher KIND CELL")
    private static void theTextsWatcherHasItsBounds() {
        CountyTrick x = reads("land;watcher 0 29;watcher 5 0;", 3);
        due("about(0, 1)", x.about(0, 1), 29);
        due("about(1, 0)", x.about(1, 0), 5);
        due("about(1, 2)", x.about(1, 2), 0);
        faults("land;watcher 6 0;", 13);
        faults("land;watcher 0 30;", 15);
    }

    @Says(where = "Terms", words = "do c (DOING)")
    private static void theTextsDoHasItsBounds() {
        CountyTrick x = reads("land;watcher 0 0;do 0;do 29;show 0 0 9;do 0;off 0;do 5;", 8);
        due("KNOWS", x.about(0, 2), 2);
        due("DONE", x.count(3), 4);
        due("the STEP", x.count(2), 4);
        faults("land;do 30;", 8);
    }

    @Says(where = "Terms", words = "rest n (1 .. 99: RESTING, where it stands)")
    private static void theTextsRestHasItsBounds() {
        due("count(2)", reads("land;rest 1;", 2).count(2), 1);
        due("count(2)", reads("land;rest 99;rest 99;", 3).count(2), 198);
        faults("land;rest 0;", 10);
        faults("land;rest 100;", 10);
        CountyTrick x = reads("land;show 4 0 9;watcher 0 0;do 0;rest 4;do 0;rest 1;do 0;", 8);
        due("seen on 0 and 5, not from 6 on", x.about(0, 2), 2);
        due("count(2)", x.count(2), 8);
        due("seen on 0 alone", reads("land;show 4 0 9;watcher 0 0;do 0;rest 5;do 0;", 6).about(0, 2), 1);
    }

    @Says(where = "Terms", words = "TOKENS: words of letters a .. z (a KIND is told as its number), figures (1 or 2 are one number), ;")
    private static void oneOrTwoFiguresAreANumber() {
        CountyTrick x = reads("land;show 05 09 01;show 5 9 1;watcher 00 00;do 01;rest 09;off 00;", 7);
        due("of(0, 1)", x.of(0, 1), 9);
        due("of(1, 1)", x.of(1, 1), 9);
        due("count(2)", x.count(2), 10);
        faults("land;show band 0 1;", 10);
        faults("land;do zz;", 8);
        faults("land;zz 1;", 5);
        faults("`and;", 0);
        faults("{and;", 0);
    }

    @Says(where = "Terms", words = "blanks (32), any number, ahead of, between and behind TOKENS (needed only between two words, two numbers).")
    private static void blanksMayBeAnyNumber() {
        reads("land;do1;do01;rest99;", 4);
        reads("   land   ;   do   1   ;   ", 2);
        reads("land ;do 1 ;", 2);
        reads("land;show0 0 1;watcher0 0;off0;", 4);
        faults("land;show00 1;", 13);
        faults("land;do 1 1;", 10);
        faults("land;dodo 1;", 5);
        faults("land do 1;", 5);
        faults("land;\tdo 1;", 5);
        faults("land;\ndo 1;", 5);
        faults("la nd;", 0);
    }

    @Says(where = "Terms", words = "FAULT: the place of the first byte of the first TOKEN that can not stand there (a word that is none")
    private static void aWordThatIsNone() {
        for (String word : new String[] {"lan", "lands", "land1x", "landa", "landz", "l", "a", "z"}) {
            faults(word + ";", word.equals("land1x") ? 4 : 0);
        }
        for (String word : new String[] {"sho", "shows", "of", "offs", "watche", "watchers", "d", "dos", "doz", "res", "rests", "dp", "eo", "xest"}) {
            faults("land;  " + word + " 0;", 7);
        }
        faults("land;do 1;zz 1 1 1;zz", 10);
    }

    @Says(where = "Terms", words = "land again, anything ahead of it")
    private static void landAgainOrAnythingAheadOfIt() {
        faults("land;do 1;land;", 10);
        faults("land;land", 5);
        for (String first : new String[] {"show 0 0 1;", "off 0;", "watcher 0 0;", "do 0;", "rest 1;", "7;", ";", "007", "~"}) {
            faults("  " + first + "land;", 2);
        }
    }

    @Says(where = "Terms", words = "a 6th show, a 7th watcher at its word")
    private static void oneTooManyAtItsWord() {
        String shows = "land;" + "show 0 0 1;".repeat(5);
        String watchers = "land;" + "watcher 0 0;".repeat(6);
        due("count(0)", reads(shows, 6).count(0), 5);
        due("count(1)", reads(watchers, 7).count(1), 6);
        reads(shows + "off 4;watcher 0 0;do 0;", 9);
        reads(watchers + "show 0 0 1;", 8);
        faults(shows + "show 0 0 1;", shows.length());
        faults(shows + " show", shows.length() + 1);
        faults(shows + "off 5;", shows.length() + 4);
        faults(watchers + "watcher 0 0;", watchers.length());
        faults(watchers + " watcher 9;", watchers.length() + 1);
    }

    @Says(where = "Terms", words = "a run of three figures or more (at its first one)")
    private static void threeFiguresAtTheFirst() {
        faults("land;do 001;", 8);
        faults("land;do  0000000000000000000000000000001;", 9);
        faults("land;do 4294967297;", 8);
        faults("land;do 18446744073709551617;", 8);
        faults("land;show 0 000 1;", 12);
        faults("land;show 0 0 001;", 14);
        faults("land;rest 100;", 10);
        faults("land100;", 4);
        faults("land;do 1000", 8);
    }

    @Says(where = "Terms", words = "a number not as told, also a SHOW that is not there yet")
    private static void aNumberNotAsToldAtItsOwnPlace() {
        faults("land;do 30", 8);
        faults("land;do 99;", 8);
        faults("land;show 6 30 0;", 10);
        faults("land;show 5 30 0;", 12);
        faults("land;show 5 29 0;", 15);
        faults("land;watcher 99 99;", 13);
        faults("land;rest 00;", 10);
        faults("land;off 0;show 0 0 1;", 9);
        faults("land;show 0 0 1;off 01;", 20);
        reads("land;show 0 0 1;off 00;", 3);
    }

    @Says(where = "Terms", words = "a byte that begins none, too)")
    private static void aByteThatBeginsNone() {
        for (int c = 0; c <= 127; c++) {
            boolean begins = c == ' ' || c == ';' || c >= '0' && c <= '9' || c >= 'a' && c <= 'z';
            if (!begins) {
                faults((char) c + "land;", 0);
                faults("land" + (char) c + ";", 4);
                faults("land;do" + (char) c + "1;", 7);
                faults("land;rest 1" + (char) c, 11);
            }
        }
        faults("land;rest -1;", 10);
        faults("land;rest +1;", 10);
        faults("Land;", 0);
        faults("lanD;", 0);
    }

    @Says(where = "Terms", words = "the TEXT's length, if it ends too early (an empty one, too).")
    private static void theLengthIfItEndsTooEarly() {
        String[] early = {"", " ", "     ", "land", "land  ", "land;show", "land;show 0", "land;show 0 0", "land;show 0 0 1", "land;watcher",
            "land;watcher 0", "land;watcher 0 0", "land;do", "land;do 1", "land;do 1  ", "land;rest", "land;rest 99", "land;off",
            "land;show 0 0 1;off", "land;show 0 0 1;off 0"};
        for (String text : early) {
            faults(text, text.length());
        }
        due("read() of nothing typed", new CountyTrick().read(), -10);
    }

    @Says(where = "Terms", words = "A LAND that is read takes the place of all but IMAGES, THE TEXT, THE FRACTION, STATUS (SAW, NOTES, MARKS none; nothing to undo).")
    private static void aLandThatIsRead() {
        CountyTrick x = furnished();
        x.image(0);
        long image = x.digest();
        x.saw(99, 0);
        x.undo();
        x.undo();
        x.undo();
        x.rest(9);
        type(x, "land;show 3 7 8;");
        due("read()", x.read(), 2);
        int[] want = {1, 0, 0, 0, 1, 0, 0, 0, 0, 0, 16};
        for (int i = 0; i < want.length; i++) {
            due("count(" + i + ")", x.count(i), want[i]);
        }
        due("undo()", x.undo(), NO);
        due("part(0)", x.part(0), 3);
        due("part(1)", x.part(1), 10);
        due("status(0)", x.status(0), 1);
        due("status(1)", x.status(1), 2);
        due("read() again", x.read(), 2);
        due("count(0), not two of them", x.count(0), 1);
        due("from(0)", x.from(0), 1);
        x.clear();
        x.type('l');
        due("digest()", x.digest(), image);
    }

    // ---- Terms: who sees

    @Says(where = "Terms", words = "(Nothing is changed by these; STEPS go beyond 9999 in them.)")
    private static void stepsGoBeyond9999() {
        CountyTrick x = plainAt0();
        x.show(LANTERN, 0, 9);
        rested(x, 9999);
        asks(x, "when(0), 9999 being 3", y -> y.when(0), 3);
        asks(x, "plan(11, -1)", y -> y.plan(11, -1), 4);
        asks(x, "plan(11111111, 3)", y -> y.plan(11111111, 3), 6);
        asks(x, "years(1, 3): 8, 28, 3 on 3, 4, 5", y -> y.years(1, 3), 2);
        asks(x, "years(1, 9): six more on 6 .. 11", y -> y.years(1, 9), 2);
        asks(x, "years(1, 10): the tenth on 0", y -> y.years(1, 10), 3);
        CountyTrick odd = plainAt0();
        odd.show(BAND, 0, 5);
        rested(odd, 9999);
        asks(odd, "when(0)", y -> y.when(0), 1);
        asks(odd, "plan(1111, 1)", y -> y.plan(1111, 1), 3);
    }

    /** A plain watcher in cell 0 that a lantern there hides from 6 to 11: each asks on 5, 6, 11, 12. */
    private static void onTheEdgesOfTheNight(String call, Call c, long byDay, long byNight) {
        int[] steps = {5, 6, 11, 12};
        for (int i = 0; i < steps.length; i++) {
            CountyTrick x = rested(plainAt0(), steps[i]);
            x.show(LANTERN, 0, 9);
            asks(x, call + " on STEP " + steps[i], c, i == 1 || i == 2 ? byNight : byDay);
        }
    }

    @Says(where = "Terms", words = "PULL of a SHOW (ON or not) at a WATCHER now; DRAWN TO:")
    private static void drawnNow() {
        onTheEdgesOfTheNight("drawn(0, 0)", y -> y.drawn(0, 0), NONE, 0);
        CountyTrick x = rested(plainAt0(), 11);
        x.show(BAND, 0, 1);
        due("pull(0, 0) on 11", x.pull(0, 0), 2);
        due("drawn(0, 1) on 11", x.drawn(0, 1), 2);
        x.rest(1);
        due("pull(0, 0) on 12", x.pull(0, 0), 5);
        due("drawn(0, 1) on 12", x.drawn(0, 1), 5);
    }

    @Says(where = "Terms", words = "SEES: whether a WATCHER would SEE a doing in a CELL now;")
    private static void seesNow() {
        onTheEdgesOfTheNight("sees(0, 0)", y -> y.sees(0, 0), 1, 0);
        onTheEdgesOfTheNight("sees(NONE, 0)", y -> y.sees(NONE, 0), 1, 0);
    }

    @Says(where = "Terms", words = "so that nobody SEES a doing in a CELL now; none.")
    private static void enoughNow() {
        onTheEdgesOfTheNight("enough(0)", y -> y.enough(0), NONE, 1);
    }

    @Says(where = "Terms", words = "so that fewest SEE a doing in a CELL now;")
    private static void placeNow() {
        onTheEdgesOfTheNight("place(0, 0, 1)", y -> y.place(0, 0, 1), 1, 0);
    }

    @Says(where = "Terms", words = "GUARD: the CELL where a WATCHER would SEE most CELLS now;")
    private static void guardNow() {
        onTheEdgesOfTheNight("guard(0, 0)", y -> y.guard(0, 0), 14, 0);
    }

    @Says(where = "Terms", words = "a WATCHER stands in CELL a or b (SHOWS as they are)")
    private static void gameNow() {
        onTheEdgesOfTheNight("game(0, 0, 29)", y -> y.game(0, 0, 29), 0, 15);
    }

    @Says(where = "Terms", words = "how many SEE a doing in a CELL now, in the mean")
    private static void failsNow() {
        int[] steps = {5, 6, 11, 12};
        for (int i = 0; i < steps.length; i++) {
            CountyTrick x = rested(plainAt0(), steps[i]);
            x.show(LANTERN, 0, 9);
            boolean night = i == 1 || i == 2;
            fraction(x, 0, 3, night ? 3 : 1, night ? 10 : 1);
        }
    }

    @Says(where = "Terms", words = "(Nothing is changed by these;")
    private static void askingChangesNothing() {
        CountyTrick x = furnished();
        asks(x, "pull(0, 0)", y -> y.pull(0, 0), 18);
        asks(x, "drawn(0, 0)", y -> y.drawn(0, 0), NONE);
        asks(x, "sees(0, 0)", y -> y.sees(0, 0), 1);
        asks(x, "unseen(0)", y -> y.unseen(0), FAR_FROM_0);
        asks(x, "when(0)", y -> y.when(0), NONE);
        asks(x, "enough(0)", y -> y.enough(0), 1);
        asks(x, "place(0, 0, 0)", y -> y.place(0, 0, 0), 0);
        asks(x, "plan(1111, 0)", y -> y.plan(1111, 0), NONE);
        asks(x, "plan(4040, 1)", y -> y.plan(4040, 1), 1);
        asks(x, "guard(0, 0)", y -> y.guard(0, 0), 14);
        asks(x, "where()", CountyTrick::where, ALL & ~FAR_FROM_0);
        asks(x, "is(0)", y -> y.is(0), bits(PLAIN, WEDDING));
        asks(x, "look(0)", y -> y.look(0), 6);
        asks(x, "what(0)", y -> y.what(0), ALL_KINDS);
        asks(x, "tries(0)", y -> y.tries(0), 6);
        asks(x, "game(0, 0, 29)", y -> y.game(0, 0, 29), 0);
        asks(x, "years(1, 9)", y -> y.years(1, 9), 7);
        due("undo()", x.undo(), 0);
        due("undo()", x.undo(), 0);
        due("of(0, 3)", x.of(0, 3), 1);
    }

    @Says(where = "Terms", words = "PULL of a SHOW (ON or not) at a WATCHER now")
    private static void aShowThatIsNotOnPullsNone() {
        CountyTrick x = watchers(STIFF, 0, OLD, 5);
        x.show(BAND, 5, 9);
        x.turns(0, 0);
        due("pull(0, 0)", x.pull(0, 0), 16);
        due("pull(0, 1)", x.pull(0, 1), 21);
        due("drawn(1, 1)", x.drawn(1, 1), 1);
        x.rest(1);
        due("pull(0, 1)", x.pull(0, 1), 18);
    }

    @Says(where = "Terms", words = "DRAWN TO: the SHOW that is ON and PULLS most (of like ones the first; 1 or more; none), how far it is DRAWN.")
    private static void drawnToTheFirstOfLikeOnes() {
        CountyTrick x = watchers(PLAIN, 0, STIFF, 0);
        asks(x, "no show", y -> y.drawn(0, 0), NONE);
        x.show(PLAIN, 2, 1);
        asks(x, "PULLS by 0", y -> y.drawn(0, 0), NONE);
        asks(x, "by 0", y -> y.drawn(0, 1), 0);
        x.show(PLAIN, 1, 1);
        asks(x, "PULLS by 1", y -> y.drawn(0, 0), 1);
        asks(x, "by 1", y -> y.drawn(0, 1), 1);
        x.show(PLAIN, 6, 1);
        asks(x, "of like ones the first", y -> y.drawn(0, 0), 1);
        x.show(PLAIN, 0, 1);
        asks(x, "the last one, by 2", y -> y.drawn(0, 0), 3);
        x.show(PLAIN, 0, 1);
        asks(x, "of like ones the first", y -> y.drawn(0, 0), 3);
        asks(x, "a stiff neck, too", y -> y.drawn(1, 0), 3);
        asks(x, "a stiff neck, by 0", y -> y.drawn(1, 1), 0);
        x.turns(3, 0);
        asks(x, "the first of those that are ON", y -> y.drawn(0, 0), 4);
        asks(fullOfShowsAndOne(), "five alike: the first of all", y -> y.drawn(0, 0), 0);
    }

    @Says(where = "Terms", words = "SEES: whether a WATCHER would SEE a doing in a CELL now; WHO would (bits).")
    private static void whoHasABitForEach() {
        asks(new CountyTrick(), "nobody there", y -> y.sees(NONE, 0), 0);
        CountyTrick x = fullOfWatchers();
        asks(x, "all six", y -> y.sees(NONE, 5), 63);
        asks(x, "too far for all", y -> y.sees(NONE, 11), 0);
        x.sends(5, 29);
        asks(x, "the last alone", y -> y.sees(NONE, 29), 32);
        asks(x, "the last, told by number", y -> y.sees(5, 29), 1);
        asks(x, "the first, told by number", y -> y.sees(0, 29), 0);
    }

    @Says(where = "Terms", words = "UNSEEN: CELLS (bits) where a doing would be SEEN by nobody on a STEP of the day t (0 .. 11).")
    private static void unseenOnAStepOfTheDay() {
        asks(new CountyTrick(), "nobody there", y -> y.unseen(0), ALL);
        asks(watchers(SURVEYOR, 0), "seen everywhere", y -> y.unseen(0), 0);
        CountyTrick x = plainAt0();
        x.show(LANTERN, 0, 9);
        for (int now : new int[] {0, 11, 12}) {
            for (int t = 0; t <= 11; t++) {
                int day = t;
                asks(x, "unseen(" + t + ") on STEP " + now, y -> y.unseen(day), t >= 6 ? ALL : FAR_FROM_0);
            }
            x.rest(now == 0 ? 11 : 1);
        }
    }

    @Says(where = "Terms", words = "WHEN: in how many STEPS (0 .. 23) a doing in a CELL would be SEEN by nobody first; none.")
    private static void whenTheNextDayComes() {
        CountyTrick x = plainAt0();
        asks(x, "never", y -> y.when(0), NONE);
        asks(x, "now", y -> y.when(29), 0);
        x.show(LANTERN, 4, 1);
        int[] soonest = {6, 5, 4, 3, 2, 1, 0, 1, 0, 1, 0, 7, 6};
        for (int s = 0; s < soonest.length; s++) {
            asks(x, "on 6, 8, 10 alone; STEP " + s, y -> y.when(3), soonest[x.count(2)]);
            x.rest(1);
        }
    }

    @Says(where = "Terms", words = "ENOUGH: the fewest SHOWS (bits; ON now or not; of like ones the least) that would have to be ON, all others not")
    private static void enoughOfLikeOnesTheLeast() {
        asks(new CountyTrick(), "nobody there, no show", y -> y.enough(0), 0);
        asks(plainAt0(), "no show", y -> y.enough(0), NONE);
        CountyTrick x = plainAt0();
        for (int s = 0; s < 5; s++) {
            x.show(s == 0 ? WEDDING : PLAIN, 0, s == 0 ? 1 : 6);
        }
        asks(x, "of like ones the least", y -> y.enough(0), 2);
        asks(x, "seen by nobody anyway", y -> y.enough(29), 0);
        for (int s = 0; s < 5; s++) {
            x.turns(s, 0);
        }
        asks(x, "ON now or not", y -> y.enough(0), 2);
        CountyTrick last = plainAt0();
        for (int s = 0; s < 5; s++) {
            last.show(PLAIN, 0, s == 4 ? 6 : 5);
        }
        asks(last, "the last alone", y -> y.enough(0), 16);
        last.watcher(STIFF, 0);
        asks(last, "none", y -> y.enough(0), NONE);
    }

    @Says(where = "Terms", words = "ENOUGH: the fewest SHOWS")
    private static void enoughTakesTheFewest() {
        CountyTrick x = watchers(PLAIN, 0, PLAIN, 29);
        x.show(WEDDING, 0, 9);
        x.show(WEDDING, 29, 9);
        asks(x, "two", y -> y.enough(14), 3);
        x.show(FIRE, 29, 9);
        x.show(FIRE, 0, 9);
        asks(x, "one of more worth than two of less", y -> y.enough(14), 4);
        CountyTrick all = watchers(PLAIN, 1, PLAIN, 6, PLAIN, 17, PLAIN, 22, PLAIN, 25);
        for (int cell : new int[] {1, 6, 17, 22, 25}) {
            all.show(PLAIN, cell, 3);
        }
        asks(all, "all five", y -> y.enough(14), 31);
    }

    @Says(where = "Terms", words = "PLACE: the CELL where a SHOW (ON then) should be so that fewest SEE a doing in a CELL now; of like ones the least; how many.")
    private static void placeOfLikeOnesTheLeast() {
        CountyTrick x = new CountyTrick();
        x.show(PLAIN, 9, 1);
        asks(x, "nobody there: the least", y -> y.place(0, 0, 0), 0);
        asks(x, "nobody there: how many", y -> y.place(0, 0, 1), 0);
        x.watcher(PLAIN, 29);
        asks(x, "in the last CELL alone", y -> y.place(0, 24, 0), 29);
        x.watcher(STIFF, 29);
        asks(x, "one sees it still", y -> y.place(0, 24, 1), 1);
        x.sends(0, 14);
        asks(x, "two see it wherever", y -> y.place(0, 20, 1), 2);
        asks(x, "the least then", y -> y.place(0, 20, 0), 0);
        CountyTrick off = watchers(PLAIN, 29);
        off.show(PLAIN, 0, 6);
        off.turns(0, 0);
        asks(off, "ON then, in the last CELL alone", y -> y.place(0, 29, 0), 29);
        asks(off, "none then", y -> y.place(0, 29, 1), 0);
        off.show(PLAIN, 29, 9);
        asks(off, "another that is ON draws anyway", y -> y.place(0, 29, 0), 0);
        off.turns(1, 0);
        asks(off, "another that is not ON does not", y -> y.place(0, 29, 0), 29);
        CountyTrick there = watchers(PLAIN, 14);
        there.show(PLAIN, 0, 1);
        there.show(PLAIN, 14, 6);
        asks(there, "it draws no more from where it was", y -> y.place(1, 14, 0), 14);
    }

    @Says(where = "Terms", words = "PLAN: 1 to 4 CELLS are told by a number (each by two of its figures, the first ones first: 11 more than the CELL: 11 .. 40)")
    private static void planTells1To4Cells() {
        CountyTrick x = plainAt0();
        x.show(LANTERN, 0, 9);
        int[][] way = {{11, 7, 6}, {40, 1, 0}, {1140, 7, 6, 0}, {4011, 7, 0, 6}, {404011, 7, 0, 1, 6}, {11404040, 7, 6, 0, 1, 2},
            {40401140, 7, 0, 1, 6, 2}, {40404040, 4, 0, 1, 2, 3}, {11111111, 10, 6, 7, 8, 9}};
        for (int[] w : way) {
            asks(x, "plan(" + w[0] + ", -1)", y -> y.plan(w[0], NONE), w[1]);
            for (int i = 0; i < w.length - 2; i++) {
                int one = i;
                asks(x, "plan(" + w[0] + ", " + i + ")", y -> y.plan(w[0], one), w[2 + i]);
            }
        }
    }

    @Says(where = "Terms", words = "a doing in each of them, on unlike STEPS from now on, 24 at most, SEEN by nobody: so that the last STEP is soonest")
    private static void planGoesIntoTheNextDay() {
        CountyTrick x = plainAt0();
        x.show(LANTERN, 4, 1);
        rested(x, 11);
        asks(x, "on 6, 8, 10 alone, from 11 on", y -> y.plan(14141414, NONE), 20);
        int[] steps = {7, 9, 11, 19};
        for (int i = 0; i < 4; i++) {
            int one = i;
            asks(x, "plan(14141414, " + i + ")", y -> y.plan(14141414, one), steps[one]);
        }
        asks(x, "the last of two is soonest, though the first could be at 7", y -> y.plan(1440, NONE), 8);
    }

    @Says(where = "Terms", words = "in how many STEPS (the last one counted, too: 1, if all is done now); the STEP (from now, 0 on) of the i-th one in the first such way (rising); none.")
    private static void planCountsTheLastStep() {
        CountyTrick x = new CountyTrick();
        asks(x, "all is done now", y -> y.plan(11, NONE), 1);
        asks(x, "now", y -> y.plan(11, 0), 0);
        asks(x, "two STEPS", y -> y.plan(1111, NONE), 2);
        CountyTrick even = plainAt0();
        even.show(BAND, 0, 1);
        asks(even, "14 on even STEPS alone, 40 on all: the first way", y -> y.plan(401540, 0), 0);
        asks(even, "the even one, at the last", y -> y.plan(401540, 1), 2);
        asks(even, "the one between", y -> y.plan(401540, 2), 1);
        asks(even, "three STEPS", y -> y.plan(401540, NONE), 3);
        asks(even, "40 gives way to 15", y -> y.plan(4015, 0), 1);
        asks(even, "15 has the first", y -> y.plan(4015, 1), 0);
        asks(even, "none for one is none for all", y -> y.plan(401140, NONE), NONE);
        CountyTrick night = plainAt0();
        night.show(LANTERN, 0, 1);
        asks(night, "12 by night on even STEPS alone, 15 by night on all: by STEP 7", y -> y.plan(1512, NONE), 8);
        asks(night, "15 gives way to 12", y -> y.plan(1512, 0), 7);
        asks(night, "12 has the first of the night", y -> y.plan(1512, 1), 6);
    }

    @Says(where = "Terms", words = "GUARD: the CELL where a WATCHER would SEE most CELLS now; of like ones the least; how many.")
    private static void guardOfLikeOnesTheLeast() {
        CountyTrick x = watchers(PLAIN, 29, SURVEYOR, 29, TAUGHT, 0);
        asks(x, "14 and 15 alike", y -> y.guard(0, 0), 14);
        asks(x, "all CELLS", y -> y.guard(0, 1), 30);
        asks(x, "all alike", y -> y.guard(1, 0), 0);
        asks(x, "all but two", y -> y.guard(2, 1), 28);
        x.show(PLAIN, 0, 9);
        asks(x, "in the last CELL alone", y -> y.guard(0, 0), 29);
        asks(x, "itself and two beside it", y -> y.guard(0, 1), 3);
        x.moves(0, 14);
        asks(x, "none anywhere: the least", y -> y.guard(0, 0), 0);
        asks(x, "none anywhere: how many", y -> y.guard(0, 1), 0);
    }

    // ---- Terms: what was done

    @Says(where = "Terms", words = "SAW 0 .. 5, as they come: on a STEP t (0 .. 11) just those told (bits) SAW a doing, all in one and the same CELL, all SHOWS and WATCHERS as they are when that is asked.")
    private static void sawIsAskedOfWhatIsThereNow() {
        CountyTrick x = plainAt0();
        x.saw(0, 1);
        due("just that one", x.where(), ALL & ~FAR_FROM_0);
        x.sends(0, 29);
        due("where it stands now", x.where(), ALL & ~NEAR_0);
        x.sends(0, 0);
        x.watcher(STIFF, 0);
        due("one more would have seen it too", x.where(), 0);
        x.sends(1, 29);
        due("where that one would not", x.where(), NEAR_0);
        x.show(LANTERN, 0, 9);
        due("on 0 a lantern draws none", x.where(), NEAR_0);
        x.forget(0);
        x.saw(6, 1);
        due("on 6 it does", x.where(), 0);
    }

    @Says(where = "Terms", words = "WHERE: CELLS (bits) that it may have been.")
    private static void whereAllAndWhereNone() {
        asks(new CountyTrick(), "no SAW, nobody", CountyTrick::where, ALL);
        asks(plainAt0(), "no SAW", CountyTrick::where, ALL);
        CountyTrick x = plainAt0();
        x.saw(0, 0);
        asks(x, "by nobody", CountyTrick::where, FAR_FROM_0);
        x.saw(11, 0);
        asks(x, "by nobody, twice", CountyTrick::where, FAR_FROM_0);
        for (int i = 2; i < 5; i++) {
            x.saw(i, 0);
        }
        x.saw(0, 1);
        asks(x, "the sixth counts, too", CountyTrick::where, 0);
    }

    @Says(where = "Terms", words = "NOTES 0 .. 5, as they come: a SHOW, LOUD l (1 .. 9), PULLED by x (0 .. 40) so FAR (f 0 .. 9) on a STEP t (0 .. 11). IS: KINDS (bits) by which all NOTES of it are so.")
    private static void notesOfOneShowAlone() {
        CountyTrick x = new CountyTrick();
        x.show(PLAIN, 0, 9);
        x.show(PLAIN, 0, 9);
        asks(x, "no NOTES", y -> y.is(0), ALL_KINDS);
        x.note(1, 9, 0, 6, 30);
        asks(x, "another's", y -> y.is(0), ALL_KINDS);
        asks(x, "FIRE, LANTERN", y -> y.is(1), bits(FIRE, LANTERN));
        for (int i = 0; i < 4; i++) {
            x.note(0, 9, 9, 11, 9);
        }
        asks(x, "PLAIN, BAND", y -> y.is(0), bits(PLAIN, BAND));
        x.note(0, 9, 9, 0, 9);
        asks(x, "the sixth counts, too", y -> y.is(0), bits(PLAIN));
        x.forget(1);
        x.note(0, 1, 0, 0, 40);
        asks(x, "none PULLS by 40", y -> y.is(0), 0);
    }

    @Says(where = "Terms", words = "LOOK: 100 t and f (t 0 .. 11, f 0 .. 9), LOUD as it is, by which the most of these KINDS that PULL alike are fewest; of like ones the least; none: no KIND.")
    private static void lookOfLikeOnesTheLeast() {
        CountyTrick x = new CountyTrick();
        x.show(PLAIN, 0, 3);
        x.show(PLAIN, 0, 4);
        asks(x, "all KINDS: 2 alike at the least", y -> y.look(0), 0);
        for (int s = 0; s < 2; s++) {
            x.note(s, 1, 0, 0, 2);
        }
        asks(x, "PLAIN, WEDDING: not told apart when LOUD 3", y -> y.look(0), 0);
        asks(x, "told apart so FAR 6 when LOUD 4", y -> y.look(1), 6);
        x.note(1, 9, 6, 0, 12);
        asks(x, "one KIND: the least", y -> y.look(1), 0);
        x.note(1, 9, 6, 0, 13);
        asks(x, "no KIND", y -> y.look(1), NONE);
    }

    @Says(where = "Terms", words = "MARKS 0 .. 5, as they come: a WATCHER, a doing so FAR (f 0 .. 9), a PULL p (0 .. 40): SAW it (1) or not (0). WHAT: KINDS (bits) by which all MARKS of one are so.")
    private static void marksOfOneWatcherAlone() {
        CountyTrick x = watchers(PLAIN, 0, PLAIN, 0);
        asks(x, "no MARKS", y -> y.what(0), ALL_KINDS);
        x.mark(1, 0, 40, 1);
        asks(x, "another's", y -> y.what(0), ALL_KINDS);
        asks(x, "STIFF", y -> y.what(1), bits(STIFF));
        x.mark(0, 0, 12, 0);
        asks(x, "not at 12", y -> y.what(0), bits(PLAIN, CHILD, TAUGHT, OLD));
        x.mark(0, 0, 11, 1);
        asks(x, "at 11: PLAIN", y -> y.what(0), bits(PLAIN));
        x.mark(0, 0, 11, 1);
        x.mark(0, 0, 11, 1);
        x.mark(0, 9, 0, 1);
        asks(x, "the sixth counts, too: none", y -> y.what(0), 0);
    }

    @Says(where = "Terms", words = "TRY: 100 f and p (f 0 .. 9, p 0 .. 40) by which, SEEING it or not, the greater part of these KINDS is least; of like ones the least; none: no KIND.")
    private static void tryOfLikeOnesTheLeast() {
        CountyTrick x = plainAt0();
        asks(x, "three and three", y -> y.tries(0), 6);
        x.mark(0, 0, 12, 1);
        asks(x, "STIFF, SURVEYOR: 16", y -> y.tries(0), 16);
        x.mark(0, 0, 16, 1);
        asks(x, "one KIND: the least", y -> y.tries(0), 0);
        x.mark(0, 0, 16, 0);
        asks(x, "no KIND", y -> y.tries(0), NONE);
        x.forget(2);
        x.mark(0, 0, 12, 0);
        asks(x, "all but STIFF, SURVEYOR: 5 parts them", y -> y.tries(0), 5);
        x.mark(0, 5, 0, 0);
        asks(x, "TAUGHT, OLD: never parted, the least", y -> y.tries(0), 0);
    }

    @Says(where = "Terms", words = "pairs that rest (bits: 0 both in a, 1 done in b, stands in a, 2 done in a, stands in b, 3 both in b; neither would get more by the other CELL).")
    private static void gameRestsWhereNeitherGetsMore() {
        CountyTrick x = plainAt0();
        asks(x, "hide and seek: none rests", y -> y.game(0, 0, 29), 0);
        asks(x, "SEEN whatever: all rest", y -> y.game(0, 0, 1), 15);
        x.show(WEDDING, 0, 9);
        asks(x, "blind in a", y -> y.game(0, 0, 29), bits(0, 2));
        asks(x, "blind in b", y -> y.game(0, 29, 0), bits(1, 3));
        x.moves(0, 14);
        asks(x, "blind in both: all rest", y -> y.game(0, 14, 15), 15);
        CountyTrick surveyor = watchers(SURVEYOR, 29);
        surveyor.show(WEDDING, 11, 9);
        asks(surveyor, "from a all is SEEN, from b nothing", y -> y.game(0, 0, 11), bits(0, 1));
        asks(surveyor, "from b all is SEEN, from a nothing", y -> y.game(0, 11, 0), bits(2, 3));
        surveyor.moves(0, 13);
        asks(surveyor, "each from itself alone, 16 against 15", y -> y.game(0, 9, 16), 0);
        surveyor.turns(0, 0);
        asks(surveyor, "not ON: both from both", y -> y.game(0, 9, 16), 15);
        asks(plainAt0(), "both from both", y -> y.game(0, 9, 16), 15);
    }

    @Says(where = "Terms", words = "FAILS: by c of 10 (0 .. 10) each SHOW that is ON, apart, fails: how many SEE a doing in a CELL now, in the mean: THE FRACTION.")
    private static void failsNeverAndAlways() {
        CountyTrick x = plainAt0();
        x.show(PLAIN, 0, 6);
        fraction(x, 0, 0, 0, 1);
        fraction(x, 0, 10, 1, 1);
        fraction(x, 0, 1, 1, 10);
        fraction(x, 0, 9, 9, 10);
        fraction(x, 29, 10, 0, 1);
        x.show(PLAIN, 0, 9);
        x.turns(1, 0);
        fraction(x, 0, 1, 1, 10);
        x.turns(1, 1);
        fraction(x, 0, 1, 1, 100);
        for (int s = 2; s < 5; s++) {
            x.show(PLAIN, 0, 9);
        }
        fraction(x, 0, 1, 1, 100000);
        fraction(x, 0, 9, 59049, 100000);
        fraction(x, 0, 10, 1, 1);
        fraction(x, 0, 0, 0, 1);
    }

    @Says(where = "Terms", words = "YEARS by a SEED (0 .. 999999), n (0 .. 60) STEPS: X is SEED at first; on each STEP X becomes X times 1103515245 and 12345, by 2147483648 what is left over; something is done in CELL X by 65536 (cut), by 30 left over: how many WATCHERS SEE it, in all of them together.")
    private static void yearsWrapAt2147483648() {
        CountyTrick x = plainAt0();
        // the cells by seed 999999: 28 8 13 19 22 23 5 29 0 8 21 1 29 23 16 19 17 24 17 20; by seed 0: 0 18 28 7 18 7 25 1 2 10
        int[] bySix9 = {0, 0, 1, 2, 3, 3, 3, 4, 4, 5, 6, 6, 7, 7, 7, 7, 8, 8, 9, 9, 10};
        int[] by0 = {0, 1, 2, 2, 3, 4, 5, 6, 7, 8, 9};
        for (int n = 0; n < bySix9.length; n++) {
            due("years(999999, " + n + ")", x.years(999999, n), bySix9[n]);
        }
        for (int n = 0; n < by0.length; n++) {
            due("years(0, " + n + ")", x.years(0, n), by0[n]);
        }
        due("years(999999, 60)", x.years(999999, 60), 32);
        CountyTrick all = watchers(SURVEYOR, 0, SURVEYOR, 1, SURVEYOR, 2, SURVEYOR, 3, SURVEYOR, 4, SURVEYOR, 5);
        due("all of them, on all STEPS", all.years(0, 60), 360);
        CountyTrick lantern = plainAt0();
        lantern.show(LANTERN, 0, 9);
        due("seen on 0 .. 5 of the day alone: 0 18 28 7 18 7", lantern.years(0, 12), 5);
        due("and on 0 of the next: 19", lantern.years(0, 13), 6);
    }

    @Says(where = "Terms", words = "UNDO: what they KNOW, DONE, the STEP, CELLS of SHOWS and WATCHERS, SHOWS ON as ahead of the last DOING, RESTING, SHOW moved, turned, WATCHER sent")
    private static void undoGivesBackEachOfTheFive() {
        CountyTrick x = watchers(PLAIN, 0, PLAIN, 5);
        x.show(PLAIN, 29, 1);
        Call[] five = {y -> y.does(0), y -> y.rest(99), y -> y.moves(0, 0), y -> y.turns(0, 0), y -> y.sends(1, 29)};
        for (Call one : five) {
            long before = x.digest();
            one.on(x);
            due("count(9)", x.count(9), 1);
            due("undo()", x.undo(), 0);
            due("digest() as ahead of it", x.digest(), before);
        }
        long[] ahead = new long[5];
        for (int i = 0; i < 5; i++) {
            ahead[i] = x.digest();
            five[i].on(x);
        }
        for (int i = 4; i >= 0; i--) {
            due("undo()", x.undo(), i == 0 ? 0 : i == 1 ? 1 : 100);
            due("digest()", x.digest(), ahead[i]);
        }
        due("undo()", x.undo(), NO);
    }

    @Says(where = "Terms", words = "(8 at most; behind a SHOW, a WATCHER that comes none may be)")
    private static void eightMayBeUndone() {
        CountyTrick x = new CountyTrick();
        for (int i = 1; i <= 7; i++) {
            x.rest(1);
            due("count(9)", x.count(9), i);
        }
        x.rest(1);
        due("count(9), eight", x.count(9), 8);
        x.rest(1);
        due("count(9), still eight", x.count(9), 8);
        for (int i = 8; i >= 1; i--) {
            due("undo()", x.undo(), i);
            due("count(9)", x.count(9), i - 1);
        }
        refuses(x, NO, NO, "undo() the ninth", CountyTrick::undo);
        x.rest(1);
        due("show", x.show(0, 0, 1), 0);
        refuses(x, NO, NO, "undo() behind a show", CountyTrick::undo);
        x.rest(1);
        due("watcher", x.watcher(0, 0), 0);
        refuses(x, NO, NO, "undo() behind a watcher", CountyTrick::undo);
        due("count(2)", x.count(2), 3);
    }

    @Says(where = "Terms", words = "IMAGES 0, 1 keep all but them, THE TEXT, THE FRACTION and STATUS; what may be undone they keep; it goes on from one.")
    private static void imagesKeepEightUndone() {
        CountyTrick x = plainAt0();
        x.show(PLAIN, 29, 9);
        for (int i = 0; i < 9; i++) {
            x.moves(0, i);
        }
        x.image(1);
        x.land();
        x.show(FIRE, 3, 1);
        x.rest(5);
        x.from(1);
        due("count(9)", x.count(9), 8);
        due("count(7)", x.count(7), 0);
        for (int i = 7; i >= 0; i--) {
            due("undo()", x.undo(), 0);
            due("of(0, 1)", x.of(0, 1), i);
        }
        due("undo()", x.undo(), NO);
        due("of(0, 0)", x.of(0, 0), PLAIN);
        x.from(1);
        due("once more", x.count(9), 8);
        due("of(0, 1)", x.of(0, 1), 8);
        due("status(1)", x.status(1), 1);
    }

    @Says(where = "Terms", words = "IMAGES 0, 1 keep all but them")
    private static void whatComesBehindTouchesNoImage() {
        CountyTrick x = furnished();
        x.image(0);
        long first = x.digest();
        x.land();
        x.show(FIRE, 29, 1);
        x.watcher(OLD, 29);
        x.fails(0, 3);
        x.image(1);
        for (int i = 0; i < 6; i++) {
            x.saw(11, 0);
            x.note(0, 9, 9, 11, 40);
            x.mark(0, 9, 40, 1);
        }
        x.image(1);
        x.fails(0, 10);
        x.forget(0);
        x.saw(3, 1);
        x.moves(0, 3);
        x.turns(0, 0);
        x.sends(0, 3);
        x.does(3);
        x.from(0);
        fraction(x, 0, 3, 1, 1);
        due("above and below are not of the image", x.digest() - first, 31L * (1 - 3) + 1 - 10);
        due("where()", x.where(), ALL & ~FAR_FROM_0);
        due("is(0)", x.is(0), bits(PLAIN, WEDDING));
        due("what(0)", x.what(0), ALL_KINDS);
        due("undo()", x.undo(), 0);
        due("undo()", x.undo(), 0);
        due("of(0, 1)", x.of(0, 1), 0);
        x.from(1);
        due("count(6)", x.count(6), 6);
        due("count(9)", x.count(9), 0);
        due("of(0, 1)", x.of(0, 1), 29);
        due("is(0)", x.is(0), 0);
    }

    @Says(where = "Terms", words = "STATUS: how many calls were refused as BAD, NO, FULL (each answer told so below is such a one).")
    private static void onlyRefusalsCount() {
        CountyTrick x = plainAt0();
        refuses(x, BAD, -10, "plan(0, 0)", y -> y.plan(0, 0));
        refuses(x, BAD, -1, "status(3)", y -> y.status(3));
        refuses(x, BAD, BAD, "part(2)", y -> y.part(2));
        asks(x, "no one to plan for", y -> y.plan(11, 5), NONE);
        asks(x, "not so many", y -> y.plan(40, 5), -5);
        asks(x, "a fault", CountyTrick::read, -10);
        asks(x, "never", y -> y.when(0), NONE);
        asks(x, "none is enough", y -> y.enough(0), NONE);
        asks(x, "drawn to none", y -> y.drawn(0, 0), NONE);
        due("status(0)", x.status(0), 3);
        due("status(1)", x.status(1), 0);
        due("status(2)", x.status(2), 0);
    }

    @Says(where = "Terms", words = "(where others are told they count as these)")
    private static void otherAnswersCountAsTheseToo() {
        CountyTrick x = new CountyTrick();
        refuses(x, BAD, -10, "plan(11, -2)", y -> y.plan(11, -2));
        refuses(x, BAD, -10, "plan(1, 0)", y -> y.plan(1, 0));
        refuses(x, BAD, -1, "status(-1)", y -> y.status(-1));
        due("status(0)", x.status(0), 3);
    }

    @Says(where = "Terms", words = "THE FRACTION is 0 by 1 at first; lowest terms, below above 0.")
    private static void lowestTerms() {
        CountyTrick x = plainAt0();
        due("above at first", x.part(0), 0);
        due("below at first", x.part(1), 1);
        x.watcher(PLAIN, 0);
        fraction(x, 0, 5, 2, 1);
        x.show(PLAIN, 0, 9);
        fraction(x, 0, 5, 1, 1);
        fraction(x, 0, 2, 2, 5);
        fraction(x, 0, 8, 8, 5);
        fraction(x, 0, 0, 0, 1);
        x.watcher(STIFF, 0);
        fraction(x, 0, 5, 2, 1);
        fraction(x, 0, 4, 9, 5);
    }

    @Says(where = "Terms", words = "Refused, changing nothing but STATUS, the first of: BAD -2 a number is not as told; NO -3 as told; FULL -4")
    private static void badGoesAheadOfFull() {
        bad(fullOfShows(), "show of no kind when full", y -> y.show(6, 0, 1));
        bad(fullOfShows(), "show in no cell when full", y -> y.show(0, 30, 1));
        bad(fullOfShows(), "show of no loudness when full", y -> y.show(0, 0, 0));
        bad(fullOfWatchers(), "watcher of no kind when full", y -> y.watcher(6, 0));
        bad(fullOfWatchers(), "watcher in no cell when full", y -> y.watcher(0, 30));
        CountyTrick x = furnished();
        for (int i = 1; i < 6; i++) {
            x.saw(4, 1);
            x.note(0, 1, 0, 0, 2);
            x.mark(0, 0, 0, 1);
        }
        bad(x, "saw when full", y -> y.saw(12, 0));
        bad(x, "note when full", y -> y.note(0, 1, 0, 0, 41));
        bad(x, "mark when full", y -> y.mark(0, 0, 0, 2));
        bad(x, "from(2), none was kept", y -> y.from(2));
        CountyTrick text = new CountyTrick();
        type(text, "x".repeat(150));
        bad(text, "type when full", y -> y.type(128));
        due("NONE", NONE, -1);
        due("BAD", BAD, -2);
        due("NO", NO, -3);
        due("FULL", FULL, -4);
    }

    // ---- a land

    @Says(where = "Promise 1", words = "As told; nothing is there.")
    private static void nothingIsThere() {
        CountyTrick x = new CountyTrick();
        for (int i = 0; i <= 10; i++) {
            due("count(" + i + ")", x.count(i), 0);
        }
        for (int i = 0; i <= 2; i++) {
            due("status(" + i + ")", x.status(i), 0);
        }
        due("part(0)", x.part(0), 0);
        due("part(1)", x.part(1), 1);
        due("digest()", x.digest(), 5699007240380752530L);
        due("clear()", x.clear(), 0);
        due("read()", x.read(), -10);
        due("undo()", x.undo(), NO);
        due("from(0)", x.from(0), NO);
        due("from(1)", x.from(1), NO);
    }

    @Says(where = "Promise 2", words = "All as at first (but for IMAGES, THE TEXT, THE FRACTION, STATUS): how many WATCHERS there were.")
    private static void landOfNoneAndOfSix() {
        CountyTrick x = new CountyTrick();
        asks(x, "land() of nothing", CountyTrick::land, 0);
        CountyTrick many = fullOfWatchers();
        due("land() of six", many.land(), 6);
        due("land() again", many.land(), 0);
        due("watcher", many.watcher(0, 0), 0);
        CountyTrick f = furnished();
        f.image(1);
        long image = f.digest();
        f.does(30);
        due("land()", f.land(), 1);
        for (int i = 0; i <= 9; i++) {
            due("count(" + i + ")", f.count(i), 0);
        }
        due("THE TEXT", f.count(10), 1);
        due("THE FRACTION", f.part(0), 3);
        due("THE FRACTION", f.part(1), 10);
        due("STATUS", f.status(0), 1);
        due("undo()", f.undo(), NO);
        due("IMAGES", f.from(1), 1);
        due("digest()", f.digest(), image);
    }

    @Says(where = "Promise 3", words = "A SHOW: its number. BAD")
    private static void showBad() {
        for (int kind : new int[] {LEAST, -1, 6, MOST}) {
            bad(furnished(), "show(" + kind + ", 0, 1)", y -> y.show(kind, 0, 1));
        }
        for (int cell : new int[] {LEAST, -1, 30, MOST}) {
            bad(furnished(), "show(0, " + cell + ", 1)", y -> y.show(0, cell, 1));
        }
        for (int loud : new int[] {LEAST, -1, 0, 10, MOST}) {
            bad(furnished(), "show(0, 0, " + loud + ")", y -> y.show(0, 0, loud));
        }
        CountyTrick x = new CountyTrick();
        int[][] fine = {{0, 0, 1}, {5, 0, 1}, {0, 29, 1}, {0, 0, 9}, {5, 29, 9}};
        for (int s = 0; s < fine.length; s++) {
            due("show", x.show(fine[s][0], fine[s][1], fine[s][2]), s);
        }
        CountyTrick undone = furnished();
        undone.show(6, 0, 1);
        due("undo() behind a refused one", undone.undo(), 0);
    }

    @Says(where = "Promise 3", words = "FULL: 5.")
    private static void showFull() {
        CountyTrick x = fullOfShows();
        x.rest(1);
        full(x, "show", y -> y.show(0, 0, 1));
        due("count(0)", x.count(0), 5);
        due("undo() behind a refused one", x.undo(), 0);
        CountyTrick four = new CountyTrick();
        for (int s = 0; s < 5; s++) {
            due("show", four.show(5, 29, 9), s);
        }
        full(four, "show", y -> y.show(5, 29, 9));
        full(four, "show", y -> y.show(5, 29, 9));
        due("status(2)", four.status(2), 2);
    }

    @Says(where = "Promise 4", words = "A WATCHER: the number. BAD")
    private static void watcherBad() {
        for (int kind : new int[] {LEAST, -1, 6, MOST}) {
            bad(furnished(), "watcher(" + kind + ", 0)", y -> y.watcher(kind, 0));
        }
        for (int cell : new int[] {LEAST, -1, 30, MOST}) {
            bad(furnished(), "watcher(0, " + cell + ")", y -> y.watcher(0, cell));
        }
        CountyTrick x = new CountyTrick();
        int[][] fine = {{0, 0}, {5, 0}, {0, 29}, {5, 29}};
        for (int w = 0; w < fine.length; w++) {
            due("watcher", x.watcher(fine[w][0], fine[w][1]), w);
        }
        CountyTrick undone = furnished();
        undone.watcher(0, 30);
        due("undo() behind a refused one", undone.undo(), 0);
    }

    @Says(where = "Promise 4", words = "FULL: 6.")
    private static void watcherFull() {
        CountyTrick x = new CountyTrick();
        for (int w = 0; w < 6; w++) {
            due("watcher", x.watcher(5, 29), w);
        }
        x.rest(1);
        full(x, "watcher", y -> y.watcher(0, 0));
        full(x, "watcher", y -> y.watcher(5, 29));
        due("count(1)", x.count(1), 6);
        due("status(2)", x.status(2), 2);
        due("undo() behind a refused one", x.undo(), 0);
    }

    @Says(where = "Promise 5", words = "A byte (0 .. 127) comes behind THE TEXT: how many it has. BAD; FULL.")
    private static void typeBadAndFull() {
        CountyTrick x = new CountyTrick();
        for (int c : new int[] {LEAST, -1, 128, 256 + 'l', MOST}) {
            bad(x, "type(" + c + ")", y -> y.type(c));
        }
        due("type(0)", x.type(0), 1);
        due("type(127)", x.type(127), 2);
        for (int i = 3; i <= 150; i++) {
            due("type(32)", x.type(32), i);
        }
        full(x, "type(32)", y -> y.type(32));
        full(x, "type(0)", y -> y.type(0));
        due("count(10)", x.count(10), 150);
        x.clear();
        due("type(32)", x.type(32), 1);
    }

    @Says(where = "Promise 6", words = "THE TEXT is empty: how many it had.")
    private static void clearOfNothingAndOf150() {
        CountyTrick x = furnished();
        due("clear()", x.clear(), 1);
        asks(x, "clear() of nothing", CountyTrick::clear, 0);
        type(x, "land;".repeat(30));
        due("clear()", x.clear(), 150);
        due("count(10)", x.count(10), 0);
        due("read() of nothing", x.read(), -10);
        type(x, "lan");
        due("nothing of the old text is left", x.read(), -10);
        due("undo() is untouched", x.undo(), 0);
    }

    @Says(where = "Promise 7", words = "THE LAND is read: how many ITEMS. -10 less the FAULT: all stays.")
    private static void allStaysBehindAFault() {
        CountyTrick x = furnished();
        type(x, "land;show 5 29 9;watcher 5 29;do 0;off 0;rest 5;show 0 0 0;");
        asks(x, "read()", CountyTrick::read, -67);
        due("of(0, 0)", x.of(0, 0), PLAIN);
        due("about(0, 0)", x.about(0, 0), PLAIN);
        due("where()", x.where(), ALL & ~FAR_FROM_0);
        due("undo()", x.undo(), 0);
        due("undo()", x.undo(), 0);
        due("of(0, 3)", x.of(0, 3), 1);
        due("from(0)", x.from(0), NO);
        due("clear()", x.clear(), 59);
        reads("land;", 1);
        reads("land;rest 1;", 2);
    }

    // ---- steps

    @Says(where = "Promise 8", words = "DOING (at STEP 9999 the STEP stays, all the same)")
    private static void doesAt9999() {
        CountyTrick x = rested(plainAt0(), 9998);
        due("does(0) on 9998", x.does(0), 1);
        due("count(2)", x.count(2), 9999);
        due("does(0) on 9999", x.does(0), 1);
        due("does(29) on 9999", x.does(29), 0);
        due("count(2)", x.count(2), 9999);
        due("DONE", x.count(3), 3);
        due("KNOWS", x.about(0, 2), 2);
        due("undo()", x.undo(), 9999);
        due("undo()", x.undo(), 9999);
        due("KNOWS", x.about(0, 2), 1);
        due("DONE", x.count(3), 1);
        due("undo()", x.undo(), 9998);
    }

    @Says(where = "Promise 8", words = "who SEES it (bits). BAD.")
    private static void doesBad() {
        for (int cell : new int[] {LEAST, -1, 30, MOST}) {
            CountyTrick x = furnished();
            bad(x, "does(" + cell + ")", y -> y.does(cell));
            due("count(9)", x.count(9), 2);
        }
        CountyTrick x = fullOfWatchers();
        due("does(0)", x.does(0), 63);
        due("does(29)", x.does(29), 0);
        due("count(5)", x.count(5), 6);
        due("does(0), nobody there", new CountyTrick().does(0), 0);
    }

    @Says(where = "Promise 9", words = "RESTING, n STEPS (1 .. 99; together one that may be undone; 9999 stays): the STEP. BAD.")
    private static void restBadAnd9999() {
        for (int n : new int[] {LEAST, -1, 0, 100, MOST}) {
            CountyTrick x = furnished();
            bad(x, "rest(" + n + ")", y -> y.rest(n));
            due("count(9)", x.count(9), 2);
        }
        CountyTrick x = new CountyTrick();
        due("rest(1)", x.rest(1), 1);
        due("rest(99)", x.rest(99), 100);
        due("count(9)", x.count(9), 2);
        due("undo()", x.undo(), 1);
        rested(x, 9996);
        due("rest(1)", x.rest(1), 9998);
        due("rest(1)", x.rest(1), 9999);
        due("rest(1)", x.rest(1), 9999);
        due("rest(99)", x.rest(99), 9999);
        due("count(9)", x.count(9), 8);
        due("undo()", x.undo(), 9999);
        due("undo()", x.undo(), 9999);
        due("undo()", x.undo(), 9998);
        due("rest(2), one of it too many", x.rest(2), 9999);
        due("undo()", x.undo(), 9998);
    }

    @Says(where = "Promise 10", words = "A SHOW goes to a CELL: where it was. BAD.")
    private static void movesBad() {
        for (int s : new int[] {LEAST, -1, 1, 5, MOST}) {
            bad(furnished(), "moves(" + s + ", 0)", y -> y.moves(s, 0));
        }
        for (int cell : new int[] {LEAST, -1, 30, MOST}) {
            bad(furnished(), "moves(0, " + cell + ")", y -> y.moves(0, cell));
        }
        bad(new CountyTrick(), "moves(0, 0), no show", y -> y.moves(0, 0));
        CountyTrick x = fullOfShows();
        due("moves(4, 29)", x.moves(4, 29), 0);
        due("moves(4, 29), to where it is", x.moves(4, 29), 29);
        due("moves(4, 0)", x.moves(4, 0), 29);
        due("count(9)", x.count(9), 3);
        due("of(3, 1)", x.of(3, 1), 0);
        due("count(2)", x.count(2), 0);
        CountyTrick refused = furnished();
        refused.moves(0, 30);
        due("count(9) behind a refused one", refused.count(9), 2);
    }

    @Says(where = "Promise 11", words = "A SHOW is ON (1) or not (0): whether it was. BAD.")
    private static void turnsBad() {
        for (int s : new int[] {LEAST, -1, 1, 5, MOST}) {
            bad(furnished(), "turns(" + s + ", 0)", y -> y.turns(s, 0));
        }
        for (int on : new int[] {LEAST, -1, 2, MOST}) {
            bad(furnished(), "turns(0, " + on + ")", y -> y.turns(0, on));
        }
        bad(new CountyTrick(), "turns(0, 1), no show", y -> y.turns(0, 1));
        CountyTrick x = fullOfShows();
        due("turns(4, 1)", x.turns(4, 1), 1);
        due("turns(4, 0)", x.turns(4, 0), 1);
        due("turns(4, 0)", x.turns(4, 0), 0);
        due("count(4)", x.count(4), 4);
        due("turns(4, 1)", x.turns(4, 1), 0);
        due("count(4)", x.count(4), 5);
        due("count(9)", x.count(9), 4);
        due("count(2)", x.count(2), 0);
        CountyTrick refused = furnished();
        refused.turns(0, 2);
        due("count(9) behind a refused one", refused.count(9), 2);
    }

    @Says(where = "Promise 12", words = "A WATCHER goes to a CELL: where it was. BAD.")
    private static void sendsBad() {
        for (int w : new int[] {LEAST, -1, 1, 6, MOST}) {
            bad(furnished(), "sends(" + w + ", 0)", y -> y.sends(w, 0));
        }
        for (int cell : new int[] {LEAST, -1, 30, MOST}) {
            bad(furnished(), "sends(0, " + cell + ")", y -> y.sends(0, cell));
        }
        bad(new CountyTrick(), "sends(0, 0), no watcher", y -> y.sends(0, 0));
        CountyTrick x = fullOfWatchers();
        due("sends(5, 29)", x.sends(5, 29), 0);
        due("sends(5, 29), to where it is", x.sends(5, 29), 29);
        due("sends(5, 0)", x.sends(5, 0), 29);
        due("count(9)", x.count(9), 3);
        due("about(4, 1)", x.about(4, 1), 0);
        due("count(2)", x.count(2), 0);
        CountyTrick refused = furnished();
        refused.sends(0, 30);
        due("count(9) behind a refused one", refused.count(9), 2);
    }

    @Says(where = "Promise 13", words = "UNDO: the STEP then. NO: none may be.")
    private static void undoOfNone() {
        refuses(new CountyTrick(), NO, NO, "undo() of nothing", CountyTrick::undo);
        CountyTrick x = furnished();
        x.image(0);
        due("undo()", x.undo(), 0);
        due("undo()", x.undo(), 0);
        refuses(x, NO, NO, "undo() of no more", CountyTrick::undo);
        x.rest(7);
        x.rest(7);
        due("undo()", x.undo(), 7);
        x.land();
        refuses(x, NO, NO, "undo() behind land()", CountyTrick::undo);
        x.rest(1);
        type(x, "land;rest 5;");
        x.read();
        refuses(x, NO, NO, "undo() behind read()", CountyTrick::undo);
        x.from(0);
        due("undo() behind from()", x.undo(), 0);
        due("of(0, 3)", x.of(0, 3), 0);
        due("count(3)", x.count(3), 0);
        due("count(5)", x.count(5), 0);
        due("SAW stay", x.count(6), 1);
        due("NOTES stay", x.count(7), 1);
        due("MARKS stay", x.count(8), 1);
    }

    @Says(where = "Promise 14", words = "Of a SHOW: KIND (0), CELL (1), LOUD (2), ON (3; 1, 0). BAD.")
    private static void ofBad() {
        for (int s : new int[] {LEAST, -1, 1, 5, MOST}) {
            bad(furnished(), "of(" + s + ", 0)", y -> y.of(s, 0));
        }
        for (int what : new int[] {LEAST, -1, 4, MOST}) {
            bad(furnished(), "of(0, " + what + ")", y -> y.of(0, what));
        }
        bad(plainAt0(), "of(0, 0), no show", y -> y.of(0, 0));
        CountyTrick x = fullOfShows();
        asks(x, "of(4, 0)", y -> y.of(4, 0), PLAIN);
        asks(x, "of(4, 3)", y -> y.of(4, 3), 1);
        bad(x, "of(5, 0)", y -> y.of(5, 0));
    }

    @Says(where = "Promise 15", words = "Of a WATCHER: KIND (0), CELL (1), KNOWS (2). BAD.")
    private static void aboutBad() {
        for (int w : new int[] {LEAST, -1, 1, 6, MOST}) {
            bad(furnished(), "about(" + w + ", 0)", y -> y.about(w, 0));
        }
        for (int what : new int[] {LEAST, -1, 3, MOST}) {
            bad(furnished(), "about(0, " + what + ")", y -> y.about(0, what));
        }
        bad(fullOfShows(), "about(0, 0), no watcher", y -> y.about(0, 0));
        CountyTrick x = fullOfWatchers();
        asks(x, "about(5, 0)", y -> y.about(5, 0), PLAIN);
        asks(x, "about(5, 2)", y -> y.about(5, 2), 0);
        bad(x, "about(6, 0)", y -> y.about(6, 0));
    }

    // ---- who sees

    @Says(where = "Promise 16", words = "PULL. BAD.")
    private static void pullBad() {
        for (int n : new int[] {LEAST, -1, 1, MOST}) {
            bad(furnished(), "pull(" + n + ", 0)", y -> y.pull(n, 0));
            bad(furnished(), "pull(0, " + n + ")", y -> y.pull(0, n));
        }
        bad(fullOfShows(), "pull(0, 0), no watcher", y -> y.pull(0, 0));
        bad(fullOfWatchers(), "pull(0, 0), no show", y -> y.pull(0, 0));
        CountyTrick x = fullOfShows();
        for (int w = 0; w < 6; w++) {
            x.watcher(PLAIN, 29);
        }
        asks(x, "pull(4, 5)", y -> y.pull(4, 5), 9);
        bad(x, "pull(5, 5)", y -> y.pull(5, 5));
        bad(x, "pull(4, 6)", y -> y.pull(4, 6));
    }

    @Says(where = "Promise 17", words = "DRAWN TO: which (0; NONE), how far (1). BAD.")
    private static void drawnBad() {
        for (int w : new int[] {LEAST, -1, 1, MOST}) {
            bad(furnished(), "drawn(" + w + ", 0)", y -> y.drawn(w, 0));
        }
        for (int what : new int[] {LEAST, -1, 2, MOST}) {
            bad(furnished(), "drawn(0, " + what + ")", y -> y.drawn(0, what));
        }
        bad(fullOfShows(), "drawn(0, 0), no watcher", y -> y.drawn(0, 0));
        asks(furnished(), "none is ON", y -> y.drawn(0, 0), NONE);
        asks(furnished(), "none is ON", y -> y.drawn(0, 1), 0);
    }

    @Says(where = "Promise 18", words = "SEES (1, 0); WHO (w = NONE; bits). BAD.")
    private static void seesBad() {
        for (int w : new int[] {LEAST, -2, 1, MOST}) {
            bad(furnished(), "sees(" + w + ", 0)", y -> y.sees(w, 0));
        }
        for (int cell : new int[] {LEAST, -1, 30, MOST}) {
            bad(furnished(), "sees(0, " + cell + ")", y -> y.sees(0, cell));
            bad(furnished(), "sees(NONE, " + cell + ")", y -> y.sees(NONE, cell));
        }
        bad(new CountyTrick(), "sees(0, 0), no watcher", y -> y.sees(0, 0));
        asks(new CountyTrick(), "sees(NONE, 29), no watcher", y -> y.sees(NONE, 29), 0);
        bad(fullOfWatchers(), "sees(6, 0)", y -> y.sees(6, 0));
        asks(watchers(PLAIN, 29), "sees(NONE, 29)", y -> y.sees(NONE, 29), 1);
    }

    @Says(where = "Promise 19", words = "UNSEEN, as bits. BAD.")
    private static void unseenBad() {
        for (int t : new int[] {LEAST, -1, 12, MOST}) {
            bad(furnished(), "unseen(" + t + ")", y -> y.unseen(t));
        }
        asks(furnished(), "unseen(0)", y -> y.unseen(0), FAR_FROM_0);
        asks(furnished(), "unseen(11)", y -> y.unseen(11), FAR_FROM_0);
    }

    @Says(where = "Promise 20", words = "WHEN. NONE. BAD.")
    private static void whenBad() {
        for (int cell : new int[] {LEAST, -1, 30, MOST}) {
            bad(furnished(), "when(" + cell + ")", y -> y.when(cell));
        }
        asks(furnished(), "when(0)", y -> y.when(0), NONE);
        asks(furnished(), "when(29)", y -> y.when(29), 0);
        asks(new CountyTrick(), "when(0), nobody there", y -> y.when(0), 0);
    }

    @Says(where = "Promise 21", words = "ENOUGH, as bits. NONE. BAD.")
    private static void enoughBad() {
        for (int cell : new int[] {LEAST, -1, 30, MOST}) {
            bad(furnished(), "enough(" + cell + ")", y -> y.enough(cell));
        }
        asks(plainAt0(), "enough(0)", y -> y.enough(0), NONE);
        asks(plainAt0(), "enough(29)", y -> y.enough(29), 0);
    }

    @Says(where = "Promise 22", words = "PLACE: the CELL (0), how many (1). BAD.")
    private static void placeBad() {
        for (int s : new int[] {LEAST, -1, 1, MOST}) {
            bad(furnished(), "place(" + s + ", 0, 0)", y -> y.place(s, 0, 0));
        }
        for (int cell : new int[] {LEAST, -1, 30, MOST}) {
            bad(furnished(), "place(0, " + cell + ", 0)", y -> y.place(0, cell, 0));
        }
        for (int what : new int[] {LEAST, -1, 2, MOST}) {
            bad(furnished(), "place(0, 0, " + what + ")", y -> y.place(0, 0, what));
        }
        bad(plainAt0(), "place(0, 0, 0), no show", y -> y.place(0, 0, 0));
        CountyTrick six = watchers(STIFF, 0, STIFF, 0, STIFF, 0, STIFF, 0, STIFF, 0, STIFF, 0);
        six.show(PLAIN, 5, 9);
        asks(six, "all six see it wherever", y -> y.place(0, 0, 1), 6);
        asks(six, "the least then", y -> y.place(0, 0, 0), 0);
        asks(six, "place(0, 29, 1)", y -> y.place(0, 29, 1), 0);
    }

    @Says(where = "Promise 23", words = "PLAN: in how many STEPS (i = NONE), the STEP of the i-th one. NONE: none (whatever i is, as told).")
    private static void planNoneWhateverIIs() {
        CountyTrick x = plainAt0();
        for (int i : new int[] {-1, 0, 1, 4, MOST}) {
            asks(x, "plan(11, " + i + ")", y -> y.plan(11, i), NONE);
            asks(x, "plan(4011, " + i + ")", y -> y.plan(4011, i), NONE);
            asks(x, "plan(11404040, " + i + ")", y -> y.plan(11404040, i), NONE);
        }
    }

    @Says(where = "Promise 23", words = "-5: not so many.")
    private static void planNotSoMany() {
        CountyTrick x = new CountyTrick();
        int cells = 0;
        for (int many = 1; many <= 4; many++) {
            cells = cells * 100 + 40;
            int told = cells;
            for (int i : new int[] {many, many + 1, MOST}) {
                asks(x, "plan(" + told + ", " + i + ")", y -> y.plan(told, i), -5);
            }
            int last = many - 1;
            asks(x, "plan(" + told + ", " + last + ")", y -> y.plan(told, last), last);
        }
    }

    @Says(where = "Promise 23", words = "BAD: -10: i below -1, too.")
    private static void planBad() {
        CountyTrick x = new CountyTrick();
        int[] wrongCells = {LEAST, -1140, -11, -1, 0, 1, 9, 10, 41, 99, 100, 110, 111, 511, 1100, 1110, 1141, 1011, 4111, 11111, 101111,
            411111, 111011, 114111, 111110, 111141, 1111111, 10111111, 41111111, 11101111, 11411111, 11111011, 11114111, 11111110,
            11111141, 40404041, 99999999, 111111111, 1111111111, MOST};
        for (int cells : wrongCells) {
            refuses(x, BAD, -10, "plan(" + cells + ", -1)", y -> y.plan(cells, NONE));
        }
        CountyTrick seen = plainAt0();
        for (int i : new int[] {LEAST, -10, -2}) {
            refuses(seen, BAD, -10, "plan(40, " + i + ")", y -> y.plan(40, i));
            refuses(seen, BAD, -10, "none is no way out: plan(11, " + i + ")", y -> y.plan(11, i));
        }
        refuses(seen, BAD, -10, "not so many is no way out: plan(10, 9)", y -> y.plan(10, 9));
        asks(seen, "plan(40404040, 3)", y -> y.plan(40404040, 3), 3);
        asks(new CountyTrick(), "plan(11111111, 3)", y -> y.plan(11111111, 3), 3);
    }

    @Says(where = "Promise 24", words = "GUARD: the CELL (0), how many (1). BAD.")
    private static void guardBad() {
        for (int w : new int[] {LEAST, -1, 1, MOST}) {
            bad(furnished(), "guard(" + w + ", 0)", y -> y.guard(w, 0));
        }
        for (int what : new int[] {LEAST, -1, 2, MOST}) {
            bad(furnished(), "guard(0, " + what + ")", y -> y.guard(0, what));
        }
        bad(fullOfShows(), "guard(0, 0), no watcher", y -> y.guard(0, 0));
        asks(fullOfWatchers(), "guard(5, 1)", y -> y.guard(5, 1), 30);
        bad(fullOfWatchers(), "guard(6, 1)", y -> y.guard(6, 1));
    }

    // ---- what was done

    @Says(where = "Promise 25", words = "SAW: how many there are. BAD")
    private static void sawBad() {
        for (int t : new int[] {LEAST, -1, 12, MOST}) {
            bad(furnished(), "saw(" + t + ", 0)", y -> y.saw(t, 0));
        }
        CountyTrick x = new CountyTrick();
        for (int many = 0; many <= 6; many++) {
            int all = (1 << many) - 1;
            for (int who : new int[] {LEAST, -1, all + 1, MOST}) {
                bad(x, "saw(0, " + who + ") of " + many, y -> y.saw(0, who));
            }
            due("saw(0, 0)", x.saw(0, 0), 1);
            due("saw(11, " + all + ")", x.saw(11, all), 2);
            x.forget(0);
            x.watcher(PLAIN, 0);
        }
    }

    @Says(where = "Promise 25", words = "FULL: 6.")
    private static void sawFull() {
        CountyTrick x = plainAt0();
        for (int i = 1; i <= 6; i++) {
            due("saw", x.saw(i, 1), i);
        }
        full(x, "saw(7, 1)", y -> y.saw(7, 1));
        full(x, "saw(0, 0)", y -> y.saw(0, 0));
        due("count(6)", x.count(6), 6);
        due("where()", x.where(), ALL & ~FAR_FROM_0);
        x.forget(0);
        due("saw", x.saw(0, 0), 1);
    }

    @Says(where = "Promise 26", words = "WHERE, as bits.")
    private static void whereToTheLastCell() {
        CountyTrick x = watchers(PLAIN, 29, PLAIN, 0);
        x.saw(0, 1);
        due("SEEN from 29 alone", x.where(), bits(29, 28, 27, 26, 23, 22, 21, 17, 16, 11));
        x.forget(0);
        x.saw(0, 2);
        due("SEEN from 0 alone", x.where(), NEAR_0);
        x.saw(0, 1);
        due("both can not be", x.where(), 0);
    }

    @Says(where = "Promise 27", words = "A NOTE: how many there are. BAD")
    private static void noteBad() {
        for (int s : new int[] {LEAST, -1, 1, MOST}) {
            bad(furnished(), "note(" + s + ", 1, 0, 0, 0)", y -> y.note(s, 1, 0, 0, 0));
        }
        for (int l : new int[] {LEAST, -1, 0, 10, MOST}) {
            bad(furnished(), "note(0, " + l + ", 0, 0, 0)", y -> y.note(0, l, 0, 0, 0));
        }
        for (int f : new int[] {LEAST, -1, 10, MOST}) {
            bad(furnished(), "note(0, 1, " + f + ", 0, 0)", y -> y.note(0, 1, f, 0, 0));
        }
        for (int t : new int[] {LEAST, -1, 12, MOST}) {
            bad(furnished(), "note(0, 1, 0, " + t + ", 0)", y -> y.note(0, 1, 0, t, 0));
        }
        for (int p : new int[] {LEAST, -1, 41, MOST}) {
            bad(furnished(), "note(0, 1, 0, 0, " + p + ")", y -> y.note(0, 1, 0, 0, p));
        }
        bad(fullOfWatchers(), "note, no show", y -> y.note(0, 1, 0, 0, 0));
        CountyTrick x = fullOfShows();
        int[][] fine = {{0, 1, 0, 0, 0}, {4, 1, 0, 0, 0}, {0, 9, 0, 0, 0}, {0, 1, 9, 0, 0}, {0, 1, 0, 11, 0}, {0, 1, 0, 0, 40}};
        for (int i = 0; i < fine.length; i++) {
            due("note", x.note(fine[i][0], fine[i][1], fine[i][2], fine[i][3], fine[i][4]), i + 1);
        }
    }

    @Says(where = "Promise 27", words = "FULL: 6.")
    private static void noteFull() {
        CountyTrick x = fullOfShows();
        for (int i = 1; i <= 6; i++) {
            due("note", x.note(i % 5, 1, 0, 1, 2), i);
        }
        full(x, "note", y -> y.note(4, 9, 9, 11, 40));
        full(x, "note", y -> y.note(2, 1, 0, 0, 2));
        due("count(7)", x.count(7), 6);
        due("is(4) is untouched", x.is(4), bits(PLAIN, BAND, WEDDING));
        x.forget(1);
        due("note", x.note(0, 1, 0, 0, 0), 1);
    }

    @Says(where = "Promise 28", words = "A MARK: how many there are. BAD")
    private static void markBad() {
        for (int w : new int[] {LEAST, -1, 1, MOST}) {
            bad(furnished(), "mark(" + w + ", 0, 0, 0)", y -> y.mark(w, 0, 0, 0));
        }
        for (int f : new int[] {LEAST, -1, 10, MOST}) {
            bad(furnished(), "mark(0, " + f + ", 0, 0)", y -> y.mark(0, f, 0, 0));
        }
        for (int p : new int[] {LEAST, -1, 41, MOST}) {
            bad(furnished(), "mark(0, 0, " + p + ", 0)", y -> y.mark(0, 0, p, 0));
        }
        for (int saw : new int[] {LEAST, -1, 2, MOST}) {
            bad(furnished(), "mark(0, 0, 0, " + saw + ")", y -> y.mark(0, 0, 0, saw));
        }
        bad(fullOfShows(), "mark, no watcher", y -> y.mark(0, 0, 0, 0));
        CountyTrick x = fullOfWatchers();
        int[][] fine = {{0, 0, 0, 0}, {5, 0, 0, 0}, {0, 9, 0, 0}, {0, 0, 40, 0}, {0, 0, 0, 1}};
        for (int i = 0; i < fine.length; i++) {
            due("mark", x.mark(fine[i][0], fine[i][1], fine[i][2], fine[i][3]), i + 1);
        }
    }

    @Says(where = "Promise 28", words = "FULL: 6.")
    private static void markFull() {
        CountyTrick x = fullOfWatchers();
        for (int i = 1; i <= 6; i++) {
            due("mark", x.mark(i - 1, 0, 12, 1), i);
        }
        full(x, "mark", y -> y.mark(5, 0, 12, 0));
        full(x, "mark", y -> y.mark(0, 9, 40, 1));
        due("count(8)", x.count(8), 6);
        due("what(5) is untouched", x.what(5), bits(STIFF, SURVEYOR));
        x.forget(2);
        due("mark", x.mark(0, 0, 0, 0), 1);
    }

    @Says(where = "Promise 29", words = "No SAW (0), NOTES (1), MARKS (2): how many there were. BAD.")
    private static void forgetBad() {
        for (int what : new int[] {LEAST, -1, 3, MOST}) {
            bad(furnished(), "forget(" + what + ")", y -> y.forget(what));
        }
        for (int what = 0; what <= 2; what++) {
            int one = what;
            asks(new CountyTrick(), "forget(" + what + ") of none", y -> y.forget(one), 0);
            CountyTrick x = furnished();
            due("forget(" + what + ")", x.forget(what), 1);
            for (int i = 0; i <= 2; i++) {
                due("count behind forget(" + what + ")", x.count(6 + i), i == what ? 0 : 1);
            }
            due("forget(" + what + ") again", x.forget(what), 0);
            due("count(9)", x.count(9), 2);
        }
        CountyTrick six = plainAt0();
        for (int i = 0; i < 6; i++) {
            six.mark(0, 0, 0, 1);
        }
        due("forget(2) of six", six.forget(2), 6);
    }

    @Says(where = "Promise 30", words = "IS, as bits. BAD.")
    private static void isBad() {
        for (int s : new int[] {LEAST, -1, 1, MOST}) {
            bad(furnished(), "is(" + s + ")", y -> y.is(s));
        }
        bad(fullOfWatchers(), "is(0), no show", y -> y.is(0));
        asks(fullOfShows(), "is(4)", y -> y.is(4), ALL_KINDS);
        bad(fullOfShows(), "is(5)", y -> y.is(5));
    }

    @Says(where = "Promise 31", words = "LOOK. NONE. BAD.")
    private static void lookBad() {
        for (int s : new int[] {LEAST, -1, 1, MOST}) {
            bad(furnished(), "look(" + s + ")", y -> y.look(s));
        }
        bad(fullOfWatchers(), "look(0), no show", y -> y.look(0));
        bad(fullOfShows(), "look(5)", y -> y.look(5));
        CountyTrick x = fullOfShows();
        x.note(4, 1, 0, 0, 40);
        asks(x, "look(4)", y -> y.look(4), NONE);
        asks(x, "look(3)", y -> y.look(3), 0);
    }

    @Says(where = "Promise 32", words = "WHAT, as bits. BAD.")
    private static void whatBad() {
        for (int w : new int[] {LEAST, -1, 1, MOST}) {
            bad(furnished(), "what(" + w + ")", y -> y.what(w));
        }
        bad(fullOfShows(), "what(0), no watcher", y -> y.what(0));
        asks(fullOfWatchers(), "what(5)", y -> y.what(5), ALL_KINDS);
        bad(fullOfWatchers(), "what(6)", y -> y.what(6));
    }

    @Says(where = "Promise 33", words = "TRY. NONE. BAD.")
    private static void triesBad() {
        for (int w : new int[] {LEAST, -1, 1, MOST}) {
            bad(furnished(), "tries(" + w + ")", y -> y.tries(w));
        }
        bad(fullOfShows(), "tries(0), no watcher", y -> y.tries(0));
        bad(fullOfWatchers(), "tries(6)", y -> y.tries(6));
        CountyTrick x = fullOfWatchers();
        x.mark(5, 0, 40, 1);
        x.mark(5, 0, 40, 0);
        asks(x, "tries(5)", y -> y.tries(5), NONE);
        asks(x, "tries(4)", y -> y.tries(4), 6);
    }

    @Says(where = "Promise 34", words = "GAME, as bits. BAD: alike a, b, too.")
    private static void gameBad() {
        for (int w : new int[] {LEAST, -1, 1, MOST}) {
            bad(furnished(), "game(" + w + ", 0, 1)", y -> y.game(w, 0, 1));
        }
        for (int cell : new int[] {LEAST, -1, 30, MOST}) {
            bad(furnished(), "game(0, " + cell + ", 1)", y -> y.game(0, cell, 1));
            bad(furnished(), "game(0, 1, " + cell + ")", y -> y.game(0, 1, cell));
            bad(furnished(), "game(0, " + cell + ", " + cell + ")", y -> y.game(0, cell, cell));
        }
        for (int cell : new int[] {0, 14, 29}) {
            bad(furnished(), "game(0, " + cell + ", " + cell + ")", y -> y.game(0, cell, cell));
        }
        bad(fullOfShows(), "game(0, 0, 1), no watcher", y -> y.game(0, 0, 1));
        asks(furnished(), "game(0, 29, 0)", y -> y.game(0, 29, 0), 0);
    }

    @Says(where = "Promise 35", words = "FAILS are THE FRACTION: 1. BAD.")
    private static void failsBad() {
        for (int cell : new int[] {LEAST, -1, 30, MOST}) {
            bad(furnished(), "fails(" + cell + ", 1)", y -> y.fails(cell, 1));
        }
        for (int c : new int[] {LEAST, -1, 11, MOST}) {
            bad(furnished(), "fails(0, " + c + ")", y -> y.fails(0, c));
        }
        CountyTrick x = new CountyTrick();
        fraction(x, 0, 10, 0, 1);
        fraction(watchers(PLAIN, 29), 29, 0, 1, 1);
        CountyTrick f = furnished();
        long[] before = state(f);
        f.fails(29, 5);
        due("nothing but THE FRACTION is changed", f.digest() - before[3], 31L * (0 - 3) + 1 - 10);
        f.fails(30, 5);
        due("THE FRACTION stays behind a refused one", f.part(0), 0);
    }

    @Says(where = "Promise 36", words = "YEARS. BAD.")
    private static void yearsBad() {
        for (int seed : new int[] {LEAST, -1, 1000000, MOST}) {
            bad(furnished(), "years(" + seed + ", 1)", y -> y.years(seed, 1));
        }
        for (int n : new int[] {LEAST, -1, 61, MOST}) {
            bad(furnished(), "years(1, " + n + ")", y -> y.years(1, n));
        }
        asks(furnished(), "years(0, 0)", y -> y.years(0, 0), 0);
        asks(furnished(), "years(999999, 60)", y -> y.years(999999, 60), 32);
    }

    // ---- what there is

    @Says(where = "Promise 37", words = "THE FRACTION: above (0), below (1). BAD.")
    private static void partBad() {
        for (int what : new int[] {LEAST, -1, 2, MOST}) {
            bad(furnished(), "part(" + what + ")", y -> y.part(what));
        }
        asks(furnished(), "part(0)", y -> y.part(0), 3);
        asks(furnished(), "part(1)", y -> y.part(1), 10);
    }

    @Says(where = "Promise 38", words = "An IMAGE is kept: 1. BAD.")
    private static void imageBad() {
        for (int i : new int[] {LEAST, -1, 2, MOST}) {
            CountyTrick x = furnished();
            bad(x, "image(" + i + ")", y -> y.image(i));
            refuses(x, NO, NO, "from(0)", y -> y.from(0));
            refuses(x, NO, NO, "from(1)", y -> y.from(1));
        }
        CountyTrick empty = new CountyTrick();
        asks(empty, "image(0) of nothing", y -> y.image(0), 1);
        empty.watcher(0, 0);
        empty.from(0);
        due("count(1)", empty.count(1), 0);
        CountyTrick x = furnished();
        asks(x, "image(1)", y -> y.image(1), 1);
        x.rest(1);
        asks(x, "image(1), anew", y -> y.image(1), 1);
        x.rest(1);
        x.from(1);
        due("count(2)", x.count(2), 2);
    }

    @Says(where = "Promise 39", words = "It goes on from an IMAGE: 1. BAD; NO: none was kept.")
    private static void fromBadAndNo() {
        CountyTrick x = furnished();
        for (int i : new int[] {LEAST, -1, 2, MOST}) {
            bad(x, "from(" + i + ")", y -> y.from(i));
        }
        refuses(x, NO, NO, "from(0)", y -> y.from(0));
        refuses(x, NO, NO, "from(1)", y -> y.from(1));
        x.image(0);
        refuses(x, NO, NO, "from(1) still", y -> y.from(1));
        asks(x, "from(0) at once", y -> y.from(0), 1);
        CountyTrick other = furnished();
        other.image(1);
        refuses(other, NO, NO, "from(0), 1 was kept", y -> y.from(0));
        other.land();
        due("from(1) behind land()", other.from(1), 1);
        due("count(1)", other.count(1), 1);
        due("from(1) once more", other.from(1), 1);
    }

    @Says(where = "Promise 40", words = "STATUS: BAD (0), NO (1), FULL (2). -1: another what (counts as BAD).")
    private static void statusOfAnother() {
        CountyTrick x = new CountyTrick();
        int many = 0;
        for (int what : new int[] {LEAST, -1, 3, MOST}) {
            refuses(x, BAD, -1, "status(" + what + ")", y -> y.status(what));
            many++;
            due("status(0)", x.status(0), many);
        }
        due("status(1)", x.status(1), 0);
        due("status(2)", x.status(2), 0);
        x.undo();
        due("status(1)", x.status(1), 1);
        x.land();
        x.image(0);
        x.from(0);
        due("status(0)", x.status(0), 4);
        due("status(1)", x.status(1), 1);
    }

    @Says(where = "Promise 41", words = "9 that may be undone, 10 bytes of THE TEXT. BAD.")
    private static void countBad() {
        for (int what : new int[] {LEAST, -1, 11, MOST}) {
            bad(furnished(), "count(" + what + ")", y -> y.count(what));
        }
        int[] want = {1, 1, 1, 1, 0, 1, 1, 1, 1, 2, 1};
        CountyTrick x = furnished();
        for (int i = 0; i < want.length; i++) {
            int what = i;
            asks(x, "count(" + i + ")", y -> y.count(what), want[what]);
        }
    }

    @Says(where = "Promise 42", words = "h = 1487; then h = 31 h + v for each v")
    private static void digestWrapsAround() {
        due("of nothing", new CountyTrick().digest(), 5699007240380752530L);
        CountyTrick x = fullOfShows();
        for (int w = 0; w < 6; w++) {
            x.watcher(w, 29 - w);
        }
        x.turns(4, 0);
        x.does(29);
        for (int i = 0; i < 6; i++) {
            x.saw(11 - i, 63 - i);
            x.note(i % 5, 9 - i, i, i, 40 - i);
            x.mark(i, 9 - i, 35 + i, i % 2);
        }
        x.fails(29, 5);
        x.type(0);
        long[] told = {5, 6, 1, 1, 4, 2, 6, 6, 6, 2, 1,
            0, 0, 9, 1, 0, 0, 9, 1, 0, 0, 9, 1, 0, 0, 9, 1, 0, 0, 9, 0,
            0, 29, 1, 1, 28, 0, 2, 27, 1, 3, 26, 0, 4, 25, 0, 5, 24, 0,
            11, 63, 10, 62, 9, 61, 8, 60, 7, 59, 6, 58,
            0, 9, 0, 0, 40, 1, 8, 1, 1, 39, 2, 7, 2, 2, 38, 3, 6, 3, 3, 37, 4, 5, 4, 4, 36, 0, 4, 5, 5, 35,
            0, 9, 35, 0, 1, 8, 36, 1, 2, 7, 37, 0, 3, 6, 38, 1, 4, 5, 39, 0, 5, 4, 40, 1};
        long h = 1487;
        for (long v : told) {
            h = 31 * h + v;
        }
        due("of all that can be", x.digest(), 31 * (31 * h + x.part(0)) + x.part(1));
    }
}
