/**
 * A method for each sentence of the document that names a boundary: the last that is allowed and the first that is not,
 * on both sides, the empty chart and the full one. (RefusalTests shows that refused calls change nothing.)
 */
public final class BoundaryTests {
    private static final int NONE = -1, BAD = -3, NO = -4, FULL = -5, LARGE = -6;
    private static final int LOW = Integer.MIN_VALUE, HIGH = Integer.MAX_VALUE;
    private static final int SPOT = 0, TURNED = 1, LED = 2, MUST = 3;
    /** Where the eight directions stand: to the right (1), to the left (-1) or in the middle (0); below, above, beside. */
    private static final int[] ACROSS = {1, -1, -1, 1, 1, -1, 0, 0};
    private static final int[] DOWN = {-1, -1, 1, 1, 0, 0, -1, 1};

    private static String sentence = "";
    private static int asked = 0;
    private static int wrong = 0;

    private static void due(String call, int got, int want) {
        asked++;
        if (got != want) {
            wrong++;
            System.out.println(sentence + ": " + call + " answered " + got + ", due is " + want);
        }
    }

    public static void main(String[] args) {
        theChart();
        theWays();
        theClashes();
        theSettings();
        theZooms();
        theChanges();
        thePlaces();
        sentence = "an object is used for at most 512 calls";
        fiveHundredAndTwelveCalls();
        System.out.println(asked + " answers, " + wrong + " of them wrong");
        if (wrong != 0) {
            System.exit(1);
        }
    }

    private static void theChart() {
        sentence = "promise 1: no NAMES, no DOTS";
        emptyChart();
        sentence = "the chart goes from (0, 0) to (1000, 1000)";
        placesOnTheChart();
        sentence = "NAMES, at most 24, are numbered from 0 as they come";
        namesInNumbers();
        sentence = "DOTS, at most 20, are numbered from 0 as they come";
        dotsInNumbers();
        sentence = "a KIND: 0 .. 3";
        kinds();
        sentence = "a WIDTH, 1 .. 300, a HEIGHT, 1 .. 80";
        sizes();
        sentence = "a WEIGHT 1 .. 1000";
        weights();
        sentence = "a new NAME is 20 wide and 8 high, of WEIGHT 100, and LEFT";
        newNames();
        sentence = "promise 7: what 0 .. 8";
        abouts();
        sentence = "promise 27: what 0 .. 5";
        counts();
    }

    private static void theWays() {
        sentence = "WAYS of a NAME: 0 .. 7, of KINDS 1, 2, 3 also 8 .. 15";
        waysOfKinds();
        sentence = "the BOX of each WAY";
        boxesOfOddSizes();
        boxesOfTheLeastSize();
        boxesOfTheGreatestSize();
        boxesOfCornersOfTheChart();
        sentence = "the PRICE of each WAY";
        prices();
        sentence = "a BOX is within THE CHART (sides may be on the sides)";
        boxesAtTheSides();
        ledBoxesAtTheSides();
        sidesAtZooms();
        sentence = "a place is covered inside of a BOX, not on its sides or corners";
        dotsAroundBoxes();
        namesAroundBoxes();
        placesAroundBoxes();
        boxesOfOneCoverNothingWhole();
        sentence = "a WAY is OPEN by its BOX, not by its LINE";
        dotsOnLines();
        sentence = "promise 9: zoom 0 .. 6, what 0 .. 5";
        waysAtZooms();
    }

    private static void theClashes() {
        sentence = "two WAYS CLASH, if some place is covered by both BOXES";
        boxesSideBySide();
        boxesOfOneAndAll();
        sentence = "the LINES of both have a place in common";
        linesInARow();
        linesThatTouch();
        linesOfOnePlace();
        onlyFarLedWaysHaveLines();
        sentence = "the LINE of one has a place that is covered by the BOX of the other";
        lineAlongASide();
        lineToASide();
        lineByACorner();
        lineToAHalf();
        sentence = "promise 10: BAD (also of the same NAME)";
        clashRefused();
        sentence = "promise 11: OPEN WAYS of other NAMES";
        clashesOfOpenWays();
    }

    private static void theSettings() {
        sentence = "two NAMES are of one PART, if OPEN WAYS of theirs CLASH, or by further NAMES so";
        partsThatTouch();
        partsOfAll();
        partsByLines();
        sentence = "promises 13, 14 and 15: NONE, BAD, NO";
        settingByHand();
        sentence = "promise 16: 0, else 100, 200, 300 and the least NAME";
        checksInOrder();
        checksOfTheLastNames();
        sentence = "promise 17: THE WORTH";
        worths();
        sentence = "BEST is LARGE, if a PART has more than 7 NAMES";
        sevenAndEight();
        threeTimesSeven();
        eightOfWhichOneHasNoWay();
        largeThoughNoSettingIsRight();
        sentence = "promise 18: NO: no SETTING is RIGHT";
        noRightSetting();
        sentence = "BEST, of several that in which NAME 0 has the lesser WAY (LEFT behind all)";
        bestOfSeveral();
        sentence = "QUICK";
        quickOrder();
        quickWays();
        sentence = "promise 20: why";
        whyLeft();
        sentence = "promise 21: slack";
        slacks();
    }

    private static void theZooms() {
        sentence = "ZOOM z, 0 .. 6: places are times 2^z, sizes and off stay";
        clashesAtZooms();
        sentence = "STEADY: the least ZOOM z with which it is OPEN at all ZOOMS z .. 6";
        steadyFromTheLastZoom();
        steadyNever();
        steadyZoomAheadOfWay();
        sentence = "STEADY: a NAME that got one ahead of it and is there at that ZOOM";
        steadyBesideOneThatComesLater();
        steadyBesideOneThatIsThere();
        sentence = "promise 22: what 0, 1; NONE; BAD";
        steadyRefused();
        sentence = "promise 23: a ZOOM 0 .. 6";
        theres();
    }

    private static void theChanges() {
        sentence = "the latest 8 are kept";
        eightAreKept();
        ringGoesRound();
        sentence = "NAMES, DOTS and what is IN HAND are as they were";
        undoneToTheFirst();
        sentence = "a change is a call that is not refused";
        changesThatAreNone();
        fullAndUndone();
    }

    private static void thePlaces() {
        sentence = "promise 24: BAD: not on THE CHART";
        placesAsked();
        sentence = "promise 25: the window (1 .. 1000)";
        windowSizes();
        windowsBesideABox();
        sentence = "promise 25: NAME i; NONE: there are not so many; BAD: i below 0";
        namesInAWindow();
    }

    private static NameChart chart(int kind, int... places) {
        NameChart c = new NameChart();
        for (int i = 0; i + 1 < places.length; i += 2) {
            c.name(kind, places[i], places[i + 1]);
        }
        return c;
    }

    private static NameChart sized(int kind, int x, int y, int w, int h) {
        NameChart c = chart(kind, x, y);
        c.size(0, w, h);
        return c;
    }

    // ---- the chart

    private static void emptyChart() {
        NameChart c = new NameChart();
        for (int what = 0; what <= 5; what++) {
            due("count(" + what + ")", c.count(what), 0);
        }
        due("parts()", c.parts(), 0);
        due("check()", c.check(), 0);
        due("worth()", c.worth(), 0);
        due("slack()", c.slack(), 0);
        for (int zoom = 0; zoom <= 6; zoom++) {
            due("there(" + zoom + ")", c.there(zoom), 0);
        }
        due("at(0, 0)", c.at(0, 0), NONE);
        due("at(1000, 1000)", c.at(1000, 1000), NONE);
        due("find(0, 0, 1000, 1000, 0)", c.find(0, 0, 1000, 1000, 0), NONE);
        for (int n = -1; n <= 1; n++) {
            due("move(" + n + ", 5, 5)", c.move(n, 5, 5), BAD);
            due("weigh(" + n + ", 5)", c.weigh(n, 5), BAD);
            due("size(" + n + ", 5, 5)", c.size(n, 5, 5), BAD);
            due("about(" + n + ", 0)", c.about(n, 0), BAD);
            due("isOf(" + n + ", 0)", c.isOf(n, 0), BAD);
            due("way(" + n + ", 0, 0, 0)", c.way(n, 0, 0, 0), BAD);
            due("clash(" + n + ", 0, 1, 0, 0)", c.clash(n, 0, 1, 0, 0), BAD);
            due("clashes(" + n + ", 0)", c.clashes(n, 0), BAD);
            due("set(" + n + ", 0)", c.set(n, 0), BAD);
            due("free(" + n + ")", c.free(n), BAD);
            due("chosen(" + n + ")", c.chosen(n), BAD);
            due("why(" + n + ", 0)", c.why(n, 0), BAD);
            due("steady(" + n + ", 0)", c.steady(n, 0), BAD);
        }
        due("undo()", c.undo(), NO);
        due("best()", c.best(), 0);
        due("quick()", c.quick(), 0);
        due("count(3)", c.count(3), 2);
    }

    private static void placesOnTheChart() {
        int[] edge = {LOW, -1001, -2, -1, 0, 1, 999, 1000, 1001, 1002, 2000, HIGH};
        for (int x : edge) {
            for (int y : edge) {
                boolean on = x >= 0 && x <= 1000 && y >= 0 && y <= 1000;
                String at = "(" + x + ", " + y + ")";
                NameChart c = new NameChart();
                due("name at " + at, c.name(0, x, y), on ? 0 : BAD);
                due("how many", c.count(0), on ? 1 : 0);
                due("its x", c.about(0, 1), on ? x : BAD);
                due("its y", c.about(0, 2), on ? y : BAD);
                due("dot at " + at, c.dot(x, y), on ? 0 : BAD);
                due("how many", c.count(1), on ? 1 : 0);
                NameChart d = chart(0, 400, 600);
                due("move to " + at, d.move(0, x, y), on ? 0 : BAD);
                due("its x", d.about(0, 1), on ? x : 400);
                due("its y", d.about(0, 2), on ? y : 600);
                due("at " + at, d.at(x, y), on ? NONE : BAD);
                due("find from " + at, d.find(x, y, 1, 1, 0), on ? NONE : BAD);
            }
        }
    }

    private static void namesInNumbers() {
        NameChart c = new NameChart();
        for (int n = 0; n < 24; n++) {
            due("chosen(" + n + ") ahead of it", c.chosen(n), BAD);
            due("name " + n, c.name(n % 4, n, 1000 - n), n);
            due("count(0)", c.count(0), n + 1);
        }
        due("a 25th", c.name(0, 0, 0), FULL);
        due("a 26th", c.name(3, 1000, 1000), FULL);
        due("a 25th of KIND 4", c.name(4, 0, 0), BAD);
        due("a 25th of KIND -1", c.name(-1, 0, 0), BAD);
        due("a 25th at x 1001", c.name(0, 1001, 0), BAD);
        due("a 25th at x -1", c.name(0, -1, 0), BAD);
        due("a 25th at y 1001", c.name(0, 0, 1001), BAD);
        due("a 25th at y -1", c.name(0, 0, -1), BAD);
        due("count(0)", c.count(0), 24);
        due("chosen(23)", c.chosen(23), NONE);
        due("chosen(24)", c.chosen(24), BAD);
        for (int n = 0; n < 24; n++) {
            due("KIND of " + n, c.about(n, 0), n % 4);
            due("x of " + n, c.about(n, 1), n);
            due("y of " + n, c.about(n, 2), 1000 - n);
        }
        due("a dot all the same", c.dot(5, 5), 0);
        c.undo();
        due("undo()", c.undo(), 6);
        due("a 24th again", c.name(2, 7, 7), 23);
        due("its x", c.about(23, 1), 7);
        due("a 25th again", c.name(2, 7, 7), FULL);
    }

    private static void dotsInNumbers() {
        NameChart c = new NameChart();
        for (int d = 0; d < 20; d++) {
            due("dot " + d, c.dot(d, d), d);
            due("count(1)", c.count(1), d + 1);
        }
        due("a 21st", c.dot(0, 0), FULL);
        due("a 22nd", c.dot(1000, 1000), FULL);
        due("a 21st at x 1001", c.dot(1001, 0), BAD);
        due("a 21st at x -1", c.dot(-1, 0), BAD);
        due("a 21st at y 1001", c.dot(0, 1001), BAD);
        due("a 21st at y -1", c.dot(0, -1), BAD);
        due("count(1)", c.count(1), 20);
        due("a name all the same", c.name(0, 500, 500), 0);
        due("its open ways", c.about(0, 7), 8);
        c.undo();
        due("undo()", c.undo(), 6);
        due("a 20th again", c.dot(505, 497), 19);
        c.name(0, 500, 500);
        due("the 20th counts: WAY 0 is not OPEN", c.way(0, 0, 0, 5), 0);
        due("the 20th counts: WAYS 0, 4 and 6 are not OPEN", c.about(0, 7), 5);
    }

    private static void kinds() {
        int[] edge = {LOW, -2, -1, 0, 1, 2, 3, 4, 5, HIGH};
        int[][] is = {{1, 0, 0, 0}, {1, 1, 0, 0}, {1, 0, 1, 0}, {1, 0, 1, 1}};
        for (int kind : edge) {
            NameChart c = new NameChart();
            boolean known = kind >= 0 && kind <= 3;
            due("name of KIND " + kind, c.name(kind, 500, 500), known ? 0 : BAD);
            due("its KIND", c.about(0, 0), known ? kind : BAD);
            for (int other : edge) {
                boolean both = known && other >= 0 && other <= 3;
                due(kind + " is of " + other, c.isOf(0, other), both ? is[kind][other] : BAD);
            }
            due("isOf(1, 0)", c.isOf(1, 0), BAD);
            due("isOf(-1, 0)", c.isOf(-1, 0), BAD);
            due("MUSTS", c.count(4), kind == 3 ? 1 : 0);
        }
    }

    private static void sizes() {
        int[] wide = {LOW, -300, -1, 0, 1, 2, 80, 81, 299, 300, 301, HIGH};
        int[] high = {LOW, -80, -1, 0, 1, 2, 79, 80, 81, 82, 300, HIGH};
        for (int w : wide) {
            for (int h : high) {
                NameChart c = chart(0, 500, 500);
                boolean good = w >= 1 && w <= 300 && h >= 1 && h <= 80;
                due("size(0, " + w + ", " + h + ")", c.size(0, w, h), good ? 0 : BAD);
                due("WIDTH", c.about(0, 3), good ? w : 20);
                due("HEIGHT", c.about(0, 4), good ? h : 8);
                due("how wide", c.way(0, 0, 0, 2), good ? w : 20);
                due("how high", c.way(0, 0, 0, 3), good ? h : 8);
                due("size(1, " + w + ", " + h + ")", c.size(1, w, h), BAD);
                due("size(-1, " + w + ", " + h + ")", c.size(-1, w, h), BAD);
            }
        }
    }

    private static void weights() {
        int[] edge = {LOW, -1000, -1, 0, 1, 2, 100, 999, 1000, 1001, 1002, HIGH};
        for (int v : edge) {
            NameChart c = chart(0, 500, 500, 600, 600);
            boolean good = v >= 1 && v <= 1000;
            due("weigh(0, " + v + ")", c.weigh(0, v), good ? 100 : BAD);
            due("WEIGHT", c.about(0, 5), good ? v : 100);
            due("WEIGHT of the other", c.about(1, 5), 100);
            due("weigh(0, 500), what it was", c.weigh(0, 500), good ? v : 100);
            due("weigh(2, " + v + ")", c.weigh(2, v), BAD);
            due("weigh(-1, " + v + ")", c.weigh(-1, v), BAD);
        }
    }

    private static void newNames() {
        NameChart c = new NameChart();
        for (int n = 0; n < 24; n++) {
            c.name(n % 4, 500, 500);
            due("WIDTH", c.about(n, 3), 20);
            due("HEIGHT", c.about(n, 4), 8);
            due("WEIGHT", c.about(n, 5), 100);
            due("chosen(" + n + ")", c.chosen(n), NONE);
            due("count(2)", c.count(2), n + 1);
        }
        // A number that comes again brings nothing along from the name that bore it.
        c.undo();
        c.undo();
        c.name(2, 0, 0);
        c.size(22, 300, 80);
        c.weigh(22, 1000);
        c.set(22, 15);
        for (int i = 0; i < 4; i++) {
            c.undo();
        }
        due("the number again", c.name(1, 700, 700), 22);
        int[] want = {1, 700, 700, 20, 8, 100, 16};
        for (int what = 0; what < want.length; what++) {
            due("about(22, " + what + ")", c.about(22, what), want[what]);
        }
        due("chosen(22)", c.chosen(22), NONE);
    }

    private static void abouts() {
        NameChart c = chart(MUST, 3, 4);
        // OPEN are 3 and 4, whose top is on THE CHART's side, and 11 and 12 likewise.
        int[] want = {3, 3, 4, 20, 8, 100, 16, 4, 0};
        for (int what = -2; what <= 10; what++) {
            due("about(0, " + what + ")", c.about(0, what), what >= 0 && what <= 8 ? want[what] : BAD);
            due("about(1, " + what + ")", c.about(1, what), BAD);
            due("about(-1, " + what + ")", c.about(-1, what), BAD);
        }
        due("about(0, LOW)", c.about(0, LOW), BAD);
        due("about(0, HIGH)", c.about(0, HIGH), BAD);
    }

    private static void counts() {
        NameChart c = chart(MUST, 500, 500, 500, 500);
        c.name(0, 100, 100);
        c.dot(1, 1);
        c.set(1, 0);
        int[] want = {3, 1, 2, 5, 2, 2};
        for (int what = -2; what <= 7; what++) {
            due("count(" + what + ")", c.count(what), what >= 0 && what <= 5 ? want[what] : BAD);
        }
        due("count(LOW)", c.count(LOW), BAD);
        due("count(HIGH)", c.count(HIGH), BAD);
    }

    // ---- ways

    private static void waysOfKinds() {
        int[] edge = {LOW, -16, -1, 0, 7, 8, 15, 16, 17, 32, HIGH};
        for (int kind = 0; kind <= 3; kind++) {
            int ways = kind == 0 ? 8 : 16;
            for (int way : edge) {
                NameChart c = chart(kind, 500, 500, 500, 500);
                c.name(SPOT, 900, 900);
                boolean good = way >= 0 && way < ways;
                String of = "(KIND " + kind + ", WAY " + way + ")";
                due("ways", c.about(0, 6), ways);
                due("way" + of, c.way(0, way, 0, 5), good ? 1 : BAD);
                due("clash" + of, c.clash(0, way, 2, 0, 0), good ? 0 : BAD);
                due("clash with " + of, c.clash(2, 0, 0, way, 0), good ? 0 : BAD);
                due("why" + of, c.why(0, way), good ? NONE : BAD);
                due("clashes" + of, c.clashes(0, way) > 0 ? 1 : c.clashes(0, way), good ? 1 : BAD);
                due("set" + of, c.set(0, way), good ? NONE : BAD);
                due("chosen", c.chosen(0), good ? way : NONE);
                due("why of one that is set" + of, c.why(0, way), good ? NO : BAD);
            }
        }
    }

    private static void boxIs(NameChart c, int way, int zoom, int left, int top, int wide, int high) {
        String of = "WAY " + way + " at ZOOM " + zoom + ": ";
        due(of + "left", c.way(0, way, zoom, 0), left);
        due(of + "top", c.way(0, way, zoom, 1), top);
        due(of + "how wide", c.way(0, way, zoom, 2), wide);
        due(of + "how high", c.way(0, way, zoom, 3), high);
    }

    private static void boxesOfOddSizes() {
        int[][] near = {{502, 593}, {491, 593}, {491, 602}, {502, 602}, {502, 598}, {491, 598}, {497, 593}, {497, 602}};
        for (int kind = 0; kind <= 3; kind++) {
            NameChart c = sized(kind, 500, 600, 7, 5);
            for (int k = 0; k < 8; k++) {
                boxIs(c, k, 0, near[k][0], near[k][1], 7, 5);
            }
        }
        // Wide 7, high 5: turned it is 4 wide and 10 high; 9 wide, 5 wide and 10 high.
        NameChart turned = sized(TURNED, 500, 600, 7, 5);
        int[][] seven = {{502, 588}, {494, 588}, {494, 602}, {502, 602}, {502, 595}, {494, 595}, {498, 588}, {498, 602}};
        NameChart odd = sized(TURNED, 500, 600, 9, 5);
        int[][] nine = {{502, 588}, {493, 588}, {493, 602}, {502, 602}, {502, 595}, {493, 595}, {498, 588}, {498, 602}};
        NameChart even = sized(TURNED, 500, 600, 8, 5);
        NameChart led = sized(LED, 500, 600, 7, 5);
        NameChart must = sized(MUST, 500, 600, 7, 5);
        int[][] far = {{540, 555}, {453, 555}, {453, 640}, {540, 640}, {540, 598}, {453, 598}, {497, 555}, {497, 640}};
        for (int k = 0; k < 8; k++) {
            boxIs(turned, 8 + k, 0, seven[k][0], seven[k][1], 4, 10);
            boxIs(odd, 8 + k, 0, nine[k][0], nine[k][1], 5, 10);
            boxIs(even, 8 + k, 0, seven[k][0], seven[k][1], 4, 10);
            boxIs(led, 8 + k, 0, far[k][0], far[k][1], 7, 5);
            boxIs(must, 8 + k, 0, far[k][0], far[k][1], 7, 5);
        }
    }

    private static void boxesOfTheLeastSize() {
        NameChart turned = sized(TURNED, 500, 600, 1, 1);
        NameChart led = sized(LED, 500, 600, 1, 1);
        int[][] near = {{502, 597}, {497, 597}, {497, 602}, {502, 602}, {502, 600}, {497, 600}, {500, 597}, {500, 602}};
        int[][] tall = {{502, 596}, {497, 596}, {497, 602}, {502, 602}, {502, 599}, {497, 599}, {500, 596}, {500, 602}};
        int[][] far = {{540, 559}, {459, 559}, {459, 640}, {540, 640}, {540, 600}, {459, 600}, {500, 559}, {500, 640}};
        for (int k = 0; k < 8; k++) {
            boxIs(turned, k, 0, near[k][0], near[k][1], 1, 1);
            boxIs(turned, 8 + k, 0, tall[k][0], tall[k][1], 1, 2);
            boxIs(led, k, 0, near[k][0], near[k][1], 1, 1);
            boxIs(led, 8 + k, 0, far[k][0], far[k][1], 1, 1);
        }
    }

    private static void boxesOfTheGreatestSize() {
        NameChart turned = sized(TURNED, 500, 600, 300, 80);
        NameChart led = sized(MUST, 500, 600, 300, 80);
        int[][] near = {{502, 518}, {198, 518}, {198, 602}, {502, 602}, {502, 560}, {198, 560}, {350, 518}, {350, 602}};
        int[][] tall = {{502, 438}, {348, 438}, {348, 602}, {502, 602}, {502, 520}, {348, 520}, {425, 438}, {425, 602}};
        int[][] far = {{540, 480}, {160, 480}, {160, 640}, {540, 640}, {540, 560}, {160, 560}, {350, 480}, {350, 640}};
        for (int k = 0; k < 8; k++) {
            boxIs(turned, k, 0, near[k][0], near[k][1], 300, 80);
            boxIs(turned, 8 + k, 0, tall[k][0], tall[k][1], 150, 160);
            boxIs(led, 8 + k, 0, far[k][0], far[k][1], 300, 80);
            boxIs(led, 8 + k, 6, 31500 + far[k][0], 37800 + far[k][1], 300, 80);
        }
    }

    /** The left and the top may lie off the chart, on any side of it. */
    private static void boxesOfCornersOfTheChart() {
        NameChart low = sized(MUST, 0, 0, 299, 79);
        NameChart high = sized(MUST, 1000, 1000, 299, 79);
        int[][] far = {{40, -119}, {-339, -119}, {-339, 40}, {40, 40}, {40, -39}, {-339, -39}, {-149, -119}, {-149, 40}};
        for (int k = 0; k < 8; k++) {
            for (int zoom = 0; zoom <= 6; zoom++) {
                boxIs(low, 8 + k, zoom, far[k][0], far[k][1], 299, 79);
                boxIs(high, 8 + k, zoom, (1000 << zoom) + far[k][0], (1000 << zoom) + far[k][1], 299, 79);
            }
        }
    }

    private static void prices() {
        int[] near = {0, 5, 10, 15, 20, 25, 30, 35};
        int[] turned = {20, 25, 30, 35, 40, 45, 50, 55};
        int[] led = {50, 55, 60, 65, 70, 75, 80, 85};
        for (int kind = 0; kind <= 3; kind++) {
            NameChart c = chart(kind, 500, 500);
            for (int k = 0; k < 8; k++) {
                int far = kind == 0 ? BAD : kind == 1 ? turned[k] : led[k];
                due("KIND " + kind + ", WAY " + k, c.way(0, k, 0, 4), near[k]);
                due("KIND " + kind + ", WAY " + k + " at ZOOM 6", c.way(0, k, 6, 4), near[k]);
                due("KIND " + kind + ", WAY " + (8 + k), c.way(0, 8 + k, 3, 4), far);
            }
        }
    }

    /** Puts name 0 where a way of it touches sides of the chart, and then one farther. */
    private static void sidesAreTouched(NameChart c, int way, int wide, int high, int off) {
        int k = way % 8;
        int halfWide = wide / 2;
        int halfHigh = high / 2;
        int leastX = ACROSS[k] < 0 ? off + wide : ACROSS[k] == 0 ? halfWide : 0;
        int mostX = ACROSS[k] > 0 ? 1000 - off - wide : ACROSS[k] == 0 ? 1000 - (wide - halfWide) : 1000;
        int leastY = DOWN[k] < 0 ? off + high : DOWN[k] == 0 ? halfHigh : 0;
        int mostY = DOWN[k] > 0 ? 1000 - off - high : DOWN[k] == 0 ? 1000 - (high - halfHigh) : 1000;
        int[][] spots = {{leastX, leastY, 1}, {mostX, leastY, 1}, {leastX, mostY, 1}, {mostX, mostY, 1},
            {leastX - 1, leastY, 0}, {mostX + 1, leastY, 0}, {leastX, leastY - 1, 0}, {leastX, mostY + 1, 0},
            {mostX, leastY - 1, 0}, {mostX, mostY + 1, 0}, {leastX - 1, mostY, 0}, {mostX + 1, mostY, 0}};
        for (int[] s : spots) {
            int moved = c.move(0, s[0], s[1]);
            String at = "WAY " + way + " at (" + s[0] + ", " + s[1] + ")";
            if (moved == 0) {
                due(at, c.way(0, way, 0, 5), s[2]);
            } else {
                due(at + " is a place off the chart", s[2], 0);
            }
        }
    }

    private static void boxesAtTheSides() {
        int[][] sizes = {{20, 8}, {1, 1}, {300, 80}, {21, 9}};
        for (int[] s : sizes) {
            NameChart c = sized(TURNED, 500, 500, s[0], s[1]);
            NameChart d = sized(TURNED, 500, 500, s[0], s[1]);
            for (int k = 0; k < 8; k++) {
                sidesAreTouched(c, k, s[0], s[1], 2);
                sidesAreTouched(d, 8 + k, (s[0] + 1) / 2, 2 * s[1], 2);
            }
        }
    }

    private static void ledBoxesAtTheSides() {
        int[][] sizes = {{20, 8}, {1, 1}, {300, 80}, {21, 9}};
        for (int kind = LED; kind <= MUST; kind++) {
            for (int[] s : sizes) {
                NameChart c = sized(kind, 500, 500, s[0], s[1]);
                for (int k = 0; k < 8; k++) {
                    sidesAreTouched(c, 8 + k, s[0], s[1], 40);
                }
            }
        }
    }

    /** One off the chart's side is 2^z off it at zoom z, and so has room for 2^z less the off. */
    private static void sidesAtZooms() {
        for (int zoom = 0; zoom <= 6; zoom++) {
            int room = 1 << zoom;
            for (int w = 1; w <= 64; w++) {
                NameChart c = sized(SPOT, 1, 999, w, 1);
                int fits = 2 + w <= room ? 1 : 0;
                String of = w + " wide at ZOOM " + zoom + ", WAY ";
                due(of + 5, c.way(0, 5, zoom, 5), fits);
                c.move(0, 999, 1);
                due(of + 4, c.way(0, 4, zoom, 5), fits);
                c.size(0, 1, w);
                due(of + 6, c.way(0, 6, zoom, 5), fits);
                c.move(0, 1, 999);
                due(of + 7, c.way(0, 7, zoom, 5), fits);
            }
        }
        NameChart far = sized(LED, 1, 500, 24, 8);
        due("off 40 and 24 wide at ZOOM 6", far.way(0, 13, 6, 5), 1);
        due("off 40 and 24 wide at ZOOM 5", far.way(0, 13, 5, 5), 0);
        far.size(0, 25, 8);
        due("off 40 and 25 wide at ZOOM 6", far.way(0, 13, 6, 5), 0);
    }

    /** The places on the sides and corners of WAY 3 of a name at (500, 500), and those next to them inside. */
    private static final int[][] BORDER = {{502, 502}, {522, 502}, {522, 510}, {502, 510}, {512, 502}, {522, 506},
        {512, 510}, {502, 506}, {503, 502}, {521, 510}, {502, 503}, {522, 509}};
    private static final int[][] INSIDE = {{503, 503}, {521, 503}, {521, 509}, {503, 509}, {512, 503}, {521, 506},
        {512, 509}, {503, 506}, {512, 506}};
    private static final int[][] OUTSIDE = {{501, 501}, {523, 501}, {523, 511}, {501, 511}, {512, 501}, {523, 506},
        {512, 511}, {501, 506}, {500, 506}, {512, 500}};

    private static void dotsAroundBoxes() {
        for (int[] at : BORDER) {
            NameChart c = chart(SPOT, 500, 500);
            c.dot(at[0], at[1]);
            due("a DOT on the border at " + at[0] + ", " + at[1], c.way(0, 3, 0, 5), 1);
        }
        for (int[] at : INSIDE) {
            NameChart c = chart(SPOT, 500, 500);
            c.dot(at[0], at[1]);
            due("a DOT inside at " + at[0] + ", " + at[1], c.way(0, 3, 0, 5), 0);
        }
        for (int[] at : OUTSIDE) {
            NameChart c = chart(SPOT, 500, 500);
            c.dot(at[0], at[1]);
            due("a DOT outside at " + at[0] + ", " + at[1], c.way(0, 3, 0, 5), 1);
        }
    }

    private static void namesAroundBoxes() {
        for (int[] at : BORDER) {
            NameChart c = chart(SPOT, at[0], at[1], 500, 500);
            due("a NAME on the border at " + at[0] + ", " + at[1], c.way(1, 3, 0, 5), 1);
        }
        for (int[] at : INSIDE) {
            NameChart c = chart(SPOT, at[0], at[1], 500, 500);
            due("a NAME inside at " + at[0] + ", " + at[1], c.way(1, 3, 0, 5), 0);
            NameChart d = chart(SPOT, 500, 500, at[0], at[1]);
            due("a later NAME inside at " + at[0] + ", " + at[1], d.way(0, 3, 0, 5), 0);
        }
        NameChart same = chart(SPOT, 500, 500, 500, 500);
        due("a NAME at the same place covers nothing", same.about(0, 7), 8);
        NameChart full = new NameChart();
        for (int n = 0; n < 23; n++) {
            full.name(SPOT, 100, 100);
        }
        full.name(SPOT, 110, 95);
        due("the place of the 24th", full.way(0, 0, 0, 5), 0);
        due("and that of the others", full.way(22, 0, 0, 5), 0);
    }

    private static void placesAroundBoxes() {
        NameChart c = chart(SPOT, 500, 500);
        c.set(0, 3);
        for (int[] at : BORDER) {
            due("at(" + at[0] + ", " + at[1] + ") on the border", c.at(at[0], at[1]), NONE);
        }
        for (int[] at : INSIDE) {
            due("at(" + at[0] + ", " + at[1] + ") inside", c.at(at[0], at[1]), 0);
        }
        for (int[] at : OUTSIDE) {
            due("at(" + at[0] + ", " + at[1] + ") outside", c.at(at[0], at[1]), NONE);
        }
    }

    private static void boxesOfOneCoverNothingWhole() {
        NameChart one = sized(SPOT, 500, 500, 1, 80);
        one.set(0, 3);
        NameChart two = sized(SPOT, 500, 500, 2, 2);
        two.set(0, 3);
        for (int x = 500; x <= 505; x++) {
            for (int y = 500; y <= 505; y++) {
                due("1 wide: at(" + x + ", " + y + ")", one.at(x, y), NONE);
                due("2 wide and high: at(" + x + ", " + y + ")", two.at(x, y), x == 503 && y == 503 ? 0 : NONE);
            }
        }
        one.dot(502, 510);
        one.dot(503, 510);
        due("1 wide, with DOTS on both sides", one.way(0, 3, 0, 5), 1);
        two.dot(503, 503);
        due("2 wide and high, with a DOT in the middle", two.way(0, 3, 0, 5), 0);
    }

    private static void dotsOnLines() {
        NameChart c = chart(LED, 500, 500);
        c.dot(520, 500);
        due("a DOT on the LINE of WAY 12", c.way(0, 12, 0, 5), 1);
        c.name(SPOT, 530, 500);
        due("a NAME on the LINE of WAY 12", c.way(0, 12, 0, 5), 1);
        c.dot(540, 500);
        due("a DOT where the LINE enters the BOX", c.way(0, 12, 0, 5), 1);
        c.dot(541, 500);
        due("a DOT in the BOX", c.way(0, 12, 0, 5), 0);
    }

    private static void waysAtZooms() {
        int[] edge = {LOW, -32, -1, 0, 1, 5, 6, 7, 8, 32, 64, HIGH};
        for (int zoom : edge) {
            NameChart c = chart(LED, 3, 5, 900, 900);
            boolean good = zoom >= 0 && zoom <= 6;
            int by = good ? 1 << zoom : 0;
            due("way(0, 3, " + zoom + ", 0)", c.way(0, 3, zoom, 0), good ? 3 * by + 2 : BAD);
            due("way(0, 11, " + zoom + ", 1)", c.way(0, 11, zoom, 1), good ? 5 * by + 40 : BAD);
            due("way(0, 3, " + zoom + ", 2)", c.way(0, 3, zoom, 2), good ? 20 : BAD);
            due("way(0, 3, " + zoom + ", 3)", c.way(0, 3, zoom, 3), good ? 8 : BAD);
            due("way(0, 3, " + zoom + ", 4)", c.way(0, 3, zoom, 4), good ? 15 : BAD);
            due("way(0, 3, " + zoom + ", 5)", c.way(0, 3, zoom, 5), good ? 1 : BAD);
            due("clash at ZOOM " + zoom, c.clash(0, 3, 1, 3, zoom), good ? 0 : BAD);
            due("there(" + zoom + ")", c.there(zoom), good ? 2 : BAD);
        }
        NameChart c = chart(LED, 500, 500);
        int[] whats = {LOW, -2, -1, 6, 7, HIGH};
        for (int what : whats) {
            due("way(0, 0, 0, " + what + ")", c.way(0, 0, 0, what), BAD);
            due("way(0, 15, 6, " + what + ")", c.way(0, 15, 6, what), BAD);
        }
    }

    // ---- clashes

    private static void bothClash(String what, NameChart c, int way, int with, int want) {
        due(what, c.clash(0, way, 1, with, 0), want);
        due(what + ", the other way round", c.clash(1, with, 0, way, 0), want);
    }

    private static void boxesSideBySide() {
        // Both by WAY 3: two boxes 20 wide and 8 high.
        for (int dx = -21; dx <= 21; dx++) {
            for (int dy = -9; dy <= 9; dy += Math.abs(dx) >= 19 ? 1 : 3) {
                NameChart c = chart(SPOT, 500, 500, 500 + dx, 500 + dy);
                bothClash("boxes " + dx + ", " + dy + " apart", c, 3, 3, Math.abs(dx) < 20 && Math.abs(dy) < 8 ? 1 : 0);
            }
        }
    }

    private static void boxesOfOneAndAll() {
        NameChart c = chart(SPOT, 500, 500, 500, 500);
        c.size(0, 1, 1);
        c.size(1, 1, 1);
        bothClash("the same box of 1 by 1", c, 3, 3, 1);
        c.move(1, 501, 500);
        bothClash("boxes of 1 by 1, side by side", c, 3, 3, 0);
        c.move(1, 501, 501);
        bothClash("boxes of 1 by 1, corner to corner", c, 3, 3, 0);
        c.size(0, 300, 80);
        bothClash("one of 1 by 1 in one of 300 by 80", c, 3, 3, 1);
        c.move(1, 799, 579);
        bothClash("in its last corner", c, 3, 3, 1);
        c.move(1, 800, 579);
        bothClash("past its right", c, 3, 3, 0);
        c.move(1, 799, 580);
        bothClash("past its bottom", c, 3, 3, 0);
        c.move(0, 1000, 1000);
        c.move(1, 1000, 1000);
        bothClash("off THE CHART", c, 3, 3, 1);
    }

    /** Both by WAY 12, in one row: a LINE of 50, to the middle of a BOX from 40 to 60. */
    private static void linesInARow() {
        for (int dx = 0; dx <= 62; dx++) {
            NameChart c = chart(LED, 500, 500, 500 + dx, 500);
            // The other's point is on the line up to 50, in the box up to 59.
            bothClash("LINES in a row, " + dx + " apart", c, 12, 12, dx < 60 ? 1 : 0);
            NameChart back = chart(LED, 500, 500, 500 - dx, 500);
            bothClash("LINES in a row, away from one another, " + dx + " apart", back, 12, 13, dx == 0 ? 1 : 0);
        }
        for (int dx = 100; dx <= 125; dx++) {
            NameChart c = chart(LED, 500, 500, 500 + dx, 500);
            bothClash("LINES in a row, toward one another, " + dx + " apart", c, 12, 13, dx < 120 ? 1 : 0);
        }
        // Three high, the box begins one above and its middle lies at a half below: the lines fall, side by side.
        NameChart slant = chart(LED, 500, 500, 500, 501);
        slant.size(0, 20, 3);
        slant.size(1, 20, 3);
        due("LINES side by side, whose BOXES overlap", slant.clash(0, 12, 1, 12, 0), 1);
        slant.move(1, 500, 503);
        bothClash("LINES and BOXES side by side", slant, 12, 12, 0);
    }

    /** The LINE of WAY 12 of a name at (500, 500) is from (500, 500) to (550, 500). */
    private static void linesThatTouch() {
        // WAY 14 of the other is a LINE upward, of 44; WAY 15 one downward.
        for (int x = 498; x <= 502; x++) {
            NameChart c = chart(LED, 500, 500, x, 500);
            bothClash("a LINE upward from (" + x + ", 500)", c, 12, 14, x < 500 ? 0 : 1);
            bothClash("a LINE downward from (" + x + ", 500)", c, 12, 15, x < 500 ? 0 : 1);
            c.move(1, x, 501);
            bothClash("a LINE upward from (" + x + ", 501)", c, 12, 14, x < 500 ? 0 : 1);
            bothClash("a LINE downward from (" + x + ", 501)", c, 12, 15, 0);
            c.move(1, x, 499);
            bothClash("a LINE upward from (" + x + ", 499)", c, 12, 14, 0);
            bothClash("a LINE downward from (" + x + ", 499)", c, 12, 15, x < 500 ? 0 : 1);
        }
        // Boxes of 1 by 1: the line of WAY 14 of (x, 541) ends at (x + 1/2, 500 + 1/2), that of (x, 540) at 499 + 1/2.
        NameChart end = chart(LED, 500, 500, 520, 541);
        end.size(1, 1, 1);
        bothClash("a LINE that ends a half short of the other", end, 12, 14, 0);
        end.move(1, 520, 540);
        bothClash("a LINE that ends a half past the other", end, 12, 14, 1);
        // High 2: the middle of WAY 14 of (x, 541) is at 541 - 40 - 1 = 500.
        end.size(1, 2, 2);
        end.move(1, 520, 541);
        bothClash("a LINE that ends on the other, its BOX about it", end, 12, 14, 1);
        NameChart start = chart(LED, 500, 500, 500, 541);
        start.size(1, 2, 2);
        bothClash("a LINE that ends where the other starts", start, 12, 14, 1);
        start.move(1, 499, 541);
        bothClash("a LINE that ends one beside where the other starts", start, 12, 14, 0);
    }

    private static void linesOfOnePlace() {
        for (int way = 8; way < 16; way++) {
            for (int with = 8; with < 16; with++) {
                NameChart c = chart(LED, 500, 500);
                c.name(MUST, 500, 500);
                due("LINES from one place, WAYS " + way + " and " + with, c.clash(0, way, 1, with, 0), 1);
                due("the same at ZOOM 6", c.clash(0, way, 1, with, 6), 1);
            }
        }
    }

    private static void onlyFarLedWaysHaveLines() {
        // A box of 1 by 1 at (500, 500), between the point of the other and its box from 502 on.
        for (int kind = 0; kind <= 3; kind++) {
            NameChart c = sized(kind, 500, 500, 21, 8);
            c.name(SPOT, 498, 500);
            c.size(1, 2, 4);
            bothClash("KIND " + kind + ", WAY 4, and a BOX up to its left", c, 4, 4, 0);
            c.move(1, 499, 500);
            bothClash("KIND " + kind + ", WAY 4, and a BOX past its left", c, 4, 4, 1);
            c.move(1, 498, 500);
            if (kind != SPOT) {
                bothClash("KIND " + kind + ", WAY 12, and a BOX beside the point", c, 12, 4, kind >= LED ? 1 : 0);
            }
        }
        NameChart two = chart(TURNED, 500, 500, 500, 500);
        bothClash("TURNED ones from one place have no LINES", two, 8, 10, 0);
    }

    private static void lineAlongASide() {
        // The other's WAY 3, a box of 10 by 8 from y + 2 on; WAY 0, one up to y - 2; about x 510 .. 520.
        NameChart c = chart(LED, 500, 500, 508, 498);
        c.size(1, 10, 8);
        bothClash("a LINE along the top of a BOX", c, 12, 3, 0);
        c.move(1, 508, 497);
        bothClash("a LINE one below the top", c, 12, 3, 1);
        c.move(1, 508, 491);
        bothClash("a LINE one above the bottom", c, 12, 3, 1);
        c.move(1, 508, 490);
        bothClash("a LINE along the bottom", c, 12, 3, 0);
        NameChart down = chart(LED, 500, 500, 498, 508);
        down.size(1, 10, 8);
        bothClash("a LINE along the left of a BOX", down, 15, 3, 0);
        down.move(1, 497, 508);
        bothClash("a LINE one past the left", down, 15, 3, 1);
        down.move(1, 489, 508);
        bothClash("a LINE one ahead of the right", down, 15, 3, 1);
        down.move(1, 488, 508);
        bothClash("a LINE along the right", down, 15, 3, 0);
    }

    private static void lineToASide() {
        // The line starts at (500, 500); WAY 5 of the other is a box of 10 by 8 up to x - 2, about its y.
        NameChart c = chart(LED, 500, 500, 502, 500);
        c.size(1, 10, 8);
        bothClash("a BOX up to the LINE's start", c, 12, 5, 0);
        c.move(1, 503, 500);
        bothClash("a BOX one past the LINE's start", c, 12, 5, 1);
        c.move(1, 502, 504);
        bothClash("a BOX with a corner at the LINE's start", c, 12, 5, 0);
        // WAY 12 has its box from 540 on: this one goes from 534 to 540, over the line alone.
        NameChart end = chart(LED, 500, 500, 532, 500);
        end.size(1, 6, 80);
        bothClash("a BOX over the LINE and up to its BOX", end, 12, 4, 1);
        // Toward the point: WAY 13 goes left; the box of the other on its right side, from x + 2 on.
        NameChart left = chart(LED, 500, 500, 498, 500);
        left.size(1, 10, 8);
        bothClash("a BOX from the LINE's start on, away from it", left, 13, 4, 0);
        left.move(1, 497, 500);
        bothClash("a BOX from one ahead of the LINE's start", left, 13, 4, 1);
        NameChart up = chart(LED, 500, 500, 500, 498);
        up.size(1, 10, 8);
        bothClash("a BOX from the LINE's start downward, away from it", up, 14, 7, 0);
        up.move(1, 500, 497);
        bothClash("a BOX from one above the LINE's start", up, 14, 7, 1);
        NameChart down = chart(LED, 500, 500, 500, 502);
        down.size(1, 10, 8);
        bothClash("a BOX down to the LINE's start, away from it", down, 15, 6, 0);
        down.move(1, 500, 503);
        bothClash("a BOX one past the LINE's start", down, 15, 6, 1);
    }

    /** 20 wide and high, the LINES of WAYS 8 .. 11 go 50 across and 50 down. */
    private static void lineByACorner() {
        for (int k = 0; k < 4; k++) {
            for (int step = 1; step <= 20; step++) {
                // A box of 1 by 1 that the diagonal goes through, and its neighbours, which have a corner on it.
                int x = 500 + (ACROSS[k] > 0 ? step : -step - 1);
                int y = 500 + (DOWN[k] > 0 ? step : -step - 1);
                oneByOneAt(8 + k, x, y, 1);
                oneByOneAt(8 + k, x + 1, y, 0);
                oneByOneAt(8 + k, x - 1, y, 0);
                oneByOneAt(8 + k, x, y + 1, 0);
                oneByOneAt(8 + k, x, y - 1, 0);
            }
        }
    }

    private static void oneByOneAt(int way, int left, int top, int want) {
        NameChart c = chart(LED, 500, 500, left - 2, top - 2);
        c.size(0, 20, 20);
        c.size(1, 1, 1);
        bothClash("the LINE of WAY " + way + " and a BOX of 1 by 1 from (" + left + ", " + top + ") on", c, way, 3, want);
    }

    /** 1 high, the BOX of WAY 12 is from y to y + 1, its middle at y + 1/2, and the LINE falls by a half. */
    private static void lineToAHalf() {
        NameChart c = chart(LED, 500, 500, 508, 498);
        c.size(0, 20, 1);
        c.size(1, 10, 8);
        bothClash("a BOX from 500 down, below which the LINE falls", c, 12, 3, 1);
        c.move(1, 508, 490);
        bothClash("a BOX down to 500, below which the LINE falls", c, 12, 3, 0);
        c.move(1, 508, 499);
        bothClash("a BOX from 501 down", c, 12, 3, 0);
        c.size(0, 20, 2);
        c.move(1, 508, 498);
        bothClash("2 high, the LINE stays at 500", c, 12, 3, 0);
        // 1 wide, the BOX of WAY 15 is from x to x + 1.
        NameChart down = chart(LED, 500, 500, 498, 508);
        down.size(0, 1, 8);
        down.size(1, 10, 8);
        bothClash("a BOX from 500 to the right, where the LINE goes by a half", down, 15, 3, 1);
        down.move(1, 488, 508);
        bothClash("a BOX up to 500", down, 15, 3, 0);
        down.size(0, 2, 8);
        down.move(1, 498, 508);
        bothClash("2 wide, the LINE stays at 500", down, 15, 3, 0);
    }

    private static void clashRefused() {
        NameChart c = chart(SPOT, 500, 500, 500, 500);
        c.name(MUST, 500, 500);
        int[] names = {LOW, -1, 0, 1, 2, 3, 24, 1 << 28, HIGH};
        for (int n : names) {
            for (int o : names) {
                boolean good = n >= 0 && n <= 2 && o >= 0 && o <= 2 && n != o;
                due("clash(" + n + ", 0, " + o + ", 0, 0)", c.clash(n, 0, o, 0, 0), good ? 1 : BAD);
                due("clash(" + n + ", 0, " + o + ", 0, 7)", c.clash(n, 0, o, 0, 7), BAD);
                due("clash(" + n + ", 0, " + o + ", 0, -1)", c.clash(n, 0, o, 0, -1), BAD);
            }
        }
        due("clash(0, 7, 2, 15, 6)", c.clash(0, 7, 2, 15, 6), 1);
        due("clash(2, 15, 0, 7, 6)", c.clash(2, 15, 0, 7, 6), 1);
        due("clash(0, 8, 2, 15, 6)", c.clash(0, 8, 2, 15, 6), BAD);
        due("clash(2, 15, 0, 8, 6)", c.clash(2, 15, 0, 8, 6), BAD);
        due("clash(0, 7, 2, 16, 6)", c.clash(0, 7, 2, 16, 6), BAD);
        due("clash(2, 16, 0, 7, 6)", c.clash(2, 16, 0, 7, 6), BAD);
        due("clash(2, 8, 2, 9, 0)", c.clash(2, 8, 2, 9, 0), BAD);
    }

    private static void clashesOfOpenWays() {
        NameChart none = chart(LED, 500, 500);
        for (int way = -1; way <= 16; way++) {
            due("alone, WAY " + way, none.clashes(0, way), way < 0 || way > 15 ? BAD : 0);
        }
        due("clashes(1, 0)", none.clashes(1, 0), BAD);
        due("clashes(-1, 0)", none.clashes(-1, 0), BAD);
        NameChart touching = chart(SPOT, 500, 500, 544, 500);
        due("BOXES that only touch", touching.clashes(0, 4), 0);
        touching.move(1, 543, 500);
        due("BOXES that overlap by 1", touching.clashes(0, 4), 3);
        // In the corner only WAY 3 of the other is open, of the LED one also 11.
        NameChart corner = chart(SPOT, 0, 0, 0, 0);
        due("only one of the other's is OPEN", corner.clashes(0, 3), 1);
        due("of a WAY that is not OPEN itself", corner.clashes(0, 4), 1);
        due("of a WAY that is not OPEN and meets none", corner.clashes(0, 1), 0);
        corner.dot(10, 5);
        due("none is OPEN", corner.clashes(0, 3), 0);
        NameChart all = new NameChart();
        for (int n = 0; n < 24; n++) {
            all.name(MUST, 500, 500);
        }
        // WAY 0 meets the boxes 0, 4 and 6 and the line of 8; WAY 8 those three boxes and all eight lines.
        due("24 of one place, WAY 0", all.clashes(0, 0), 23 * 4);
        due("24 of one place, WAY 8", all.clashes(23, 8), 23 * 11);
    }

    // ---- settings

    private static void partsThatTouch() {
        NameChart c = chart(SPOT, 500, 500, 544, 500);
        due("BOXES that only touch", c.parts(), 2);
        due("the greatest", c.count(5), 1);
        c.move(1, 543, 500);
        due("BOXES that overlap by 1", c.parts(), 1);
        due("the greatest", c.count(5), 2);
        c.move(1, 500, 520);
        due("BOXES above one another that only touch", c.parts(), 2);
        c.move(1, 500, 519);
        due("BOXES above one another that overlap by 1", c.parts(), 1);
        c.move(1, 544, 520);
        due("corner to corner", c.parts(), 2);
        c.move(1, 543, 519);
        due("corners that overlap", c.parts(), 1);
        // Not OPEN are those of the corner but WAY 3.
        NameChart shut = chart(SPOT, 0, 0, 44, 0);
        due("OPEN ones touch", shut.parts(), 2);
        shut.move(1, 43, 0);
        due("OPEN ones overlap", shut.parts(), 1);
        // The one by WAY 3 up to 22, the other by WAY 2 from 21 on.
        shut.dot(22, 5);
        due("a DOT on the side of the one", shut.about(0, 7), 1);
        due("and inside of the other, by which alone they met", shut.parts(), 2);
        shut.undo();
        due("without it", shut.parts(), 1);
        shut.dot(21, 5);
        due("a DOT inside of the one, on the side of the other", shut.about(0, 7), 0);
        due("one without OPEN WAYS is a PART by itself", shut.parts(), 2);
        due("its number", shut.about(0, 8), 0);
        due("the number of the other", shut.about(1, 8), 1);
    }

    private static void partsOfAll() {
        NameChart apart = new NameChart();
        NameChart one = new NameChart();
        NameChart back = new NameChart();
        for (int n = 0; n < 24; n++) {
            apart.name(SPOT, 50 + 44 * (n % 12), 500 + 20 * (n / 12));
            one.name(SPOT, 24 + 40 * n, 500);
            // From both ends to the middle, so that many parts come together at the last.
            back.name(SPOT, n % 2 == 0 ? 24 + 20 * n : 964 - 20 * n, 500);
            due("apart", apart.parts(), n + 1);
            due("the greatest apart", apart.count(5), 1);
            due("in a row", one.parts(), 1);
            due("the greatest in a row", one.count(5), n + 1);
        }
        due("from both ends", back.parts(), 1);
        for (int n = 0; n < 24; n++) {
            due("number of " + n, apart.about(n, 8), n);
            due("number in the row of " + n, one.about(n, 8), 0);
            due("number from both ends of " + n, back.about(n, 8), 0);
        }
        NameChart turns = new NameChart();
        for (int n = 0; n < 24; n++) {
            turns.name(SPOT, 100 + 100 * (n % 3), 500);
        }
        for (int n = 0; n < 24; n++) {
            due("in turn, number of " + n, turns.about(n, 8), n % 3);
        }
        due("in turn", turns.parts(), 3);
        due("in turn, the greatest", turns.count(5), 8);
    }

    private static void partsByLines() {
        // Wide 1, high 1: all boxes of the first are within 41 of its point, the near ones of the second within 3.
        NameChart c = chart(LED, 500, 500);
        c.size(0, 1, 1);
        c.name(SPOT, 544, 500);
        c.size(1, 1, 1);
        due("LED, touching", c.parts(), 2);
        c.move(1, 543, 500);
        due("LED, overlapping", c.parts(), 1);
        c.move(1, 520, 500);
        due("only the LINE meets the other", c.parts(), 1);
        c.move(1, 520, 520);
        due("only the slanting LINE meets the other", c.parts(), 1);
        NameChart spot = chart(SPOT, 500, 500, 520, 500);
        spot.size(0, 1, 1);
        spot.size(1, 1, 1);
        due("without LINES", spot.parts(), 2);
    }

    private static void settingByHand() {
        NameChart c = chart(SPOT, 500, 500, 500, 500);
        c.name(MUST, 0, 0);
        due("free(0) at first", c.free(0), NO);
        due("chosen(0) at first", c.chosen(0), NONE);
        due("set(0, 0)", c.set(0, 0), NONE);
        due("chosen(0)", c.chosen(0), 0);
        due("set(0, 7)", c.set(0, 7), 0);
        due("set(0, 8)", c.set(0, 8), BAD);
        due("set(0, -1)", c.set(0, -1), BAD);
        due("chosen(0) after those", c.chosen(0), 7);
        due("set(1, 7), which CLASHES", c.set(1, 7), NONE);
        due("set(2, 9), which is not OPEN", c.set(2, 9), NONE);
        due("set(2, 15)", c.set(2, 15), 9);
        due("set(2, 16)", c.set(2, 16), BAD);
        due("set(3, 0)", c.set(3, 0), BAD);
        due("set(-1, 0)", c.set(-1, 0), BAD);
        due("count(2)", c.count(2), 0);
        due("free(2)", c.free(2), 15);
        due("free(2) again", c.free(2), NO);
        due("free(3)", c.free(3), BAD);
        due("free(-1)", c.free(-1), BAD);
        due("free(0)", c.free(0), 7);
        due("count(2) after", c.count(2), 2);
        due("chosen(3)", c.chosen(3), BAD);
        due("chosen(-1)", c.chosen(-1), BAD);
        due("chosen(HIGH)", c.chosen(HIGH), BAD);
    }

    private static void checksInOrder() {
        // 0 and 1 are musts of one place, 2 stands in the corner, 3 and 4 are of another place.
        NameChart c = chart(MUST, 500, 500, 500, 500);
        c.name(SPOT, 0, 0);
        c.name(SPOT, 800, 800);
        c.name(SPOT, 800, 800);
        due("nothing set", c.check(), 300);
        c.set(0, 0);
        due("one MUST set", c.check(), 301);
        c.set(3, 0);
        c.set(4, 0);
        due("a CLASH goes ahead of a MUST", c.check(), 203);
        c.set(2, 0);
        due("one not OPEN goes ahead of a CLASH", c.check(), 102);
        c.set(1, 0);
        due("one not OPEN goes ahead of a CLASH of lesser NAMES", c.check(), 102);
        c.free(2);
        due("the least of two that CLASH", c.check(), 200);
        c.set(1, 1);
        due("of the others", c.check(), 203);
        c.set(4, 1);
        due("RIGHT, with one LEFT that is no MUST", c.check(), 0);
        c.dot(810, 795);
        due("a DOT in the BOX", c.check(), 103);
        c.undo();
        c.name(SPOT, 790, 795);
        due("a NAME's place in the BOX", c.check(), 104);
        c.undo();
        c.move(0, 999, 500);
        due("over THE CHART's side", c.check(), 100);
    }

    private static void checksOfTheLastNames() {
        NameChart c = new NameChart();
        for (int n = 0; n < 22; n++) {
            c.name(LED, 100 + 100 * (n % 8), 100 + 100 * (n / 8));
        }
        c.name(MUST, 500, 800);
        c.name(MUST, 500, 800);
        due("the MUST 22", c.check(), 322);
        c.set(22, 0);
        due("the MUST 23", c.check(), 323);
        c.set(23, 0);
        due("the CLASH of 22 and 23", c.check(), 222);
        c.dot(510, 795);
        due("22 is not OPEN", c.check(), 122);
        c.free(22);
        due("23 is not OPEN", c.check(), 123);
        c.set(23, 1);
        due("22 is LEFT", c.check(), 322);
        c.set(22, 2);
        due("RIGHT", c.check(), 0);
        // LINES that cross, of WAYS that are OPEN.
        c.set(22, 8);
        c.set(23, 10);
        due("LINES from one place", c.check(), 222);
    }

    private static void worths() {
        NameChart c = chart(MUST, 500, 500);
        c.name(TURNED, 500, 500);
        due("all LEFT", c.worth(), 0);
        c.set(0, 0);
        due("PRICE 0", c.worth(), 20000);
        c.weigh(0, 1);
        due("WEIGHT 1, PRICE 0", c.worth(), 200);
        c.set(0, 15);
        due("WEIGHT 1, PRICE 85", c.worth(), 115);
        c.weigh(0, 1000);
        due("WEIGHT 1000, PRICE 85", c.worth(), 115000);
        c.set(1, 15);
        due("and WEIGHT 100, PRICE 55", c.worth(), 115000 + 14500);
        c.free(0);
        due("without the first", c.worth(), 14500);

        NameChart all = new NameChart();
        for (int n = 0; n < 24; n++) {
            all.name(n % 4, 100 + 160 * (n % 5), 100 + 160 * (n / 5));
            all.weigh(n, 1000);
        }
        due("BEST of 24 apart, of WEIGHT 1000", all.best(), 4800000);
        due("its WORTH", all.worth(), 4800000);
        due("none LEFT", all.count(2), 0);
    }

    /** So many names three apart in a row are one part. */
    private static NameChart row(int kind, int many) {
        NameChart c = new NameChart();
        for (int n = 0; n < many; n++) {
            c.name(kind, 400 + 3 * n, 400);
        }
        return c;
    }

    private static void sevenAndEight() {
        for (int many = 1; many <= 24; many++) {
            NameChart c = row(SPOT, many);
            c.set(many - 1, 6);
            int kept = c.count(3);
            int worth = c.best();
            due(many + " in a PART, the greatest", c.count(5), many);
            due(many + " in a PART, LARGE", worth == LARGE ? 1 : 0, many > 7 ? 1 : 0);
            due(many + " in a PART, WORTH in hand", c.worth(), many > 7 ? 17000 : worth);
            due(many + " in a PART, changes", c.count(3), many > 7 ? kept : Math.min(8, kept + 1));
            due(many + " in a PART, RIGHT", c.check(), 0);
        }
        for (int kind = 0; kind <= 3; kind++) {
            NameChart seven = row(kind, 7);
            due("seven of KIND " + kind, seven.count(5), 7);
            due("seven of KIND " + kind + " are not LARGE", seven.best() == LARGE ? 1 : 0, 0);
            NameChart eight = row(kind, 8);
            due("eight of KIND " + kind, eight.best(), LARGE);
        }
    }

    private static void threeTimesSeven() {
        NameChart c = new NameChart();
        for (int n = 0; n < 24; n++) {
            c.name(SPOT, 200 + 200 * (n % 3), n < 21 ? 400 : 700);
        }
        due("three PARTS of 7 and three of 1", c.parts(), 6);
        due("the greatest", c.count(5), 7);
        due("four of each PART and the three", c.best(), 3 * (20000 + 19500 + 19000 + 18500) + 3 * 20000);
        due("LEFT", c.count(2), 9);
        for (int n = 0; n < 24; n++) {
            due("chosen(" + n + ")", c.chosen(n), n >= 21 ? 0 : n / 3 < 4 ? n / 3 : NONE);
        }
        c.move(23, 200, 400);
        due("seven and seven and eight", c.best(), LARGE);
        due("what was in hand stays", c.count(2), 9);
    }

    private static void eightOfWhichOneHasNoWay() {
        // All have WAY 3 alone: the first from (2, 2) to (4, 4), the others from (3, 3) on.
        NameChart c = chart(SPOT, 0, 0);
        for (int n = 0; n < 7; n++) {
            c.name(SPOT, 1, 1);
        }
        c.size(0, 2, 2);
        due("eight of one PART", c.count(5), 8);
        due("LARGE", c.best(), LARGE);
        c.dot(3, 3);
        due("one has no OPEN WAY now", c.about(0, 7), 0);
        due("so seven are of one PART", c.count(5), 7);
        due("and two PARTS", c.parts(), 2);
        due("BEST of the seven", c.best(), 18500);
        due("the one is LEFT", c.chosen(0), NONE);
        due("the first of the seven is set", c.chosen(1), 3);
    }

    private static void largeThoughNoSettingIsRight() {
        NameChart c = row(SPOT, 8);
        c.name(MUST, 0, 0);
        c.dot(10, 5);
        c.dot(50, 44);
        due("the MUST has no OPEN WAY", c.about(8, 7), 0);
        due("eight of one PART, and no SETTING is RIGHT", c.best(), LARGE);
        c.move(7, 800, 800);
        due("seven of one PART, and no SETTING is RIGHT", c.best(), NO);
        c.move(8, 800, 200);
        due("seven of one PART, and one is RIGHT", c.best() > 0 ? 1 : 0, 1);
    }

    private static void noRightSetting() {
        NameChart c = chart(MUST, 0, 0);
        due("one MUST in the corner", c.best(), 18500);
        c.dot(10, 5);
        due("its WAY 3 shut, WAY 11 stays", c.best(), 13500);
        due("its WAY", c.chosen(0), 11);
        c.dot(50, 44);
        due("both shut", c.best(), NO);
        due("its WAY in hand stays", c.chosen(0), 11);
        c.name(SPOT, 500, 500);
        due("another could be set", c.best(), NO);
        due("and is not", c.chosen(1), NONE);
        NameChart spot = chart(SPOT, 0, 0);
        spot.dot(10, 5);
        due("one that is no MUST", spot.best(), 0);
        NameChart led = chart(LED, 0, 0);
        led.dot(10, 5);
        led.dot(50, 44);
        due("a LED one", led.best(), 0);
        NameChart two = chart(MUST, 0, 0, 0, 0);
        due("two MUSTS of one corner: WAYS 3 and 11 CLASH", two.best(), NO);
        two.move(1, 0, 1000);
        due("of two corners", two.best(), 38500);
        NameChart late = chart(SPOT, 500, 500, 500, 500);
        late.set(0, 6);
        late.name(MUST, 0, 0);
        late.dot(10, 5);
        late.dot(50, 44);
        due("a MUST in a later PART", late.best(), NO);
        due("nothing changes in the first PART", late.chosen(0), 6);
        due("nothing changes in the first PART", late.chosen(1), NONE);
    }

    private static void handIs(String what, NameChart c, int... ways) {
        for (int n = 0; n < ways.length; n++) {
            due(what + ": chosen(" + n + ")", c.chosen(n), ways[n]);
        }
    }

    private static void bestOfSeveral() {
        NameChart two = chart(SPOT, 500, 500, 500, 500);
        due("two of one place", two.best(), 39500);
        handIs("two of one place", two, 0, 1);
        NameChart one = chart(SPOT, 0, 0, 0, 0, 0, 0);
        due("one of three", one.best(), 18500);
        handIs("one of three", one, 3, NONE, NONE);
        one.weigh(2, 101);
        due("the heaviest of three", one.best(), 101 * 185);
        handIs("the heaviest of three", one, NONE, NONE, 3);
        // A turned name has WAY 5 for 25 and WAY 8 for 20; by WAY 8 it takes WAY 0 from the other, which has WAY 1 for 5.
        NameChart turned = chart(TURNED, 500, 500);
        turned.size(0, 100, 8);
        int[][] dots = {{590, 495}, {410, 495}, {410, 505}, {590, 505}, {590, 500}};
        for (int[] d : dots) {
            turned.dot(d[0], d[1]);
        }
        turned.name(SPOT, 500, 492);
        due("WAYS 0 .. 4 are shut", turned.way(0, 4, 0, 5), 0);
        due("WAYS 5 and 0, or 8 and 1", turned.best(), 37500);
        handIs("the lesser WAY, though it costs more", turned, 5, 0);
        turned.weigh(0, 101);
        due("the WORTH goes ahead", turned.best(), 101 * 180 + 19500);
        handIs("the WORTH goes ahead", turned, 8, 1);
        turned.weigh(0, 99);
        due("the WORTH goes ahead", turned.best(), 99 * 175 + 20000);
        handIs("the WORTH goes ahead", turned, 5, 0);
        // WAYS 4 and 8 have one PRICE.
        NameChart same = chart(TURNED, 500, 500);
        same.size(0, 100, 8);
        for (int i = 0; i < 4; i++) {
            same.dot(dots[i][0], dots[i][1]);
        }
        due("WAYS 4 and 8 of one PRICE", same.best(), 18000);
        handIs("WAYS 4 and 8 of one PRICE", same, 4);
    }

    private static void quickIs(String what, NameChart c, int left, int... ways) {
        due(what, c.quick(), left);
        handIs(what, c, ways);
    }

    private static void quickOrder() {
        // In the corner one name only can be set, by WAY 3.
        NameChart c = chart(SPOT, 0, 0, 0, 0, 0, 0);
        quickIs("of one WEIGHT by their numbers", c, 2, 3, NONE, NONE);
        c.weigh(2, 101);
        quickIs("one more", c, 2, NONE, NONE, 3);
        c.weigh(1, 1000);
        quickIs("the most", c, 2, NONE, 3, NONE);
        c.weigh(0, 1000);
        quickIs("the most, of two", c, 2, 3, NONE, NONE);
        c.name(MUST, 0, 0);
        c.weigh(3, 1);
        quickIs("a MUST of WEIGHT 1 ahead of 1000", c, 3, NONE, NONE, NONE, 3);
        c.name(MUST, 0, 0);
        c.weigh(4, 1);
        quickIs("of two MUSTS the lesser number", c, 4, NONE, NONE, NONE, 3, NONE);
        c.weigh(4, 2);
        quickIs("of two MUSTS the heavier", c, 4, NONE, NONE, NONE, NONE, 3);
        c.name(LED, 0, 0);
        c.weigh(5, 1000);
        quickIs("LED is no MUST", c, 5, NONE, NONE, NONE, NONE, 3, NONE);
        NameChart full = new NameChart();
        for (int n = 0; n < 24; n++) {
            full.name(SPOT, 0, 0);
            full.weigh(n, n + 1);
        }
        due("24 in a corner", full.quick(), 23);
        due("the last", full.chosen(23), 3);
        due("how many LEFT", full.count(2), 23);
    }

    private static void quickWays() {
        // The box of 0, by WAY 0, is from (502, 490) to (522, 498).
        NameChart c = chart(SPOT, 500, 500, 520, 500);
        quickIs("a BOX beside that only touches", c, 0, 0, 0);
        c.move(1, 519, 500);
        due("WAY 0 of 1 CLASHES", c.clash(0, 0, 1, 0, 0), 1);
        quickIs("a BOX that overlaps by 1", c, 0, 0, 2);
        NameChart d = chart(SPOT, 22, 10);
        quickIs("sides on the sides", d, 0, 0);
        d.dot(32, 5);
        quickIs("WAY 1 in the very corner", d, 0, 1);
        d.move(0, 21, 10);
        quickIs("WAY 1 one over the side", d, 0, 3);
    }

    private static void whyLeft() {
        NameChart c = chart(MUST, 500, 500, 500, 500, 500, 500);
        due("why(2, 0), none set", c.why(2, 0), NONE);
        c.set(1, 0);
        due("why(2, 0)", c.why(2, 0), 1);
        c.set(0, 0);
        due("why(2, 0), the least", c.why(2, 0), 0);
        due("why(2, 2), none", c.why(2, 2), NONE);
        due("why(2, 15), by its LINE past WAY 0", c.why(2, 15), NONE);
        due("why(2, 8), by its LINE through WAY 0", c.why(2, 8), 0);
        due("why(2, 16)", c.why(2, 16), BAD);
        due("why(2, -1)", c.why(2, -1), BAD);
        due("why(0, 0), it is set", c.why(0, 0), NO);
        due("why(0, 15), it is set", c.why(0, 15), NO);
        due("why(0, 16), it is set", c.why(0, 16), BAD);
        due("why(0, -1), it is set", c.why(0, -1), BAD);
        due("why(3, 0)", c.why(3, 0), BAD);
        due("why(-1, 0)", c.why(-1, 0), BAD);
        c.free(0);
        due("why(0, 0), it is LEFT again", c.why(0, 0), 1);
        NameChart side = chart(SPOT, 500, 500, 520, 500);
        side.set(0, 0);
        due("a BOX that only touches", side.why(1, 0), NONE);
        side.move(1, 519, 500);
        due("a BOX that overlaps by 1", side.why(1, 0), 0);
        NameChart full = new NameChart();
        for (int n = 0; n < 24; n++) {
            full.name(SPOT, 0, 0);
        }
        full.set(23, 0);
        due("the last NAME, by WAYS that are not OPEN", full.why(0, 0), 23);
    }

    private static void slacks() {
        NameChart c = chart(SPOT, 500, 500);
        due("LEFT", c.slack(), 0);
        for (int way = 0; way < 8; way++) {
            c.set(0, way);
            due("WAY " + way, c.slack(), way == 0 ? 0 : 1);
        }
        c.set(0, 1);
        c.dot(510, 495);
        due("WAY 0 is not OPEN", c.slack(), 0);
        NameChart side = chart(SPOT, 500, 500, 520, 500);
        side.set(0, 0);
        side.set(1, 1);
        due("WAY 0 beside the other, which only touches", side.slack(), 1);
        side.move(1, 519, 500);
        due("WAY 0 overlaps by 1", side.slack(), 0);
        // Both stand where the other keeps them from a cheaper one.
        NameChart both = chart(SPOT, 500, 500, 500, 500);
        both.set(0, 1);
        both.set(1, 1);
        due("both could go to WAY 0", both.slack(), 2);
        both.set(1, 0);
        due("neither could", both.slack(), 0);
        NameChart shut = chart(SPOT, 0, 0);
        shut.set(0, 7);
        due("one that is not OPEN itself could have WAY 3", shut.slack(), 1);
        shut.set(0, 2);
        due("WAY 3 costs more than 2", shut.slack(), 0);
        NameChart full = new NameChart();
        for (int n = 0; n < 24; n++) {
            full.name(SPOT, 100 + 160 * (n % 5), 100 + 160 * (n / 5));
            full.set(n, 7);
        }
        due("all 24", full.slack(), 24);
    }

    // ---- zooms

    private static void clashesAtZooms() {
        // dx apart by WAY 0, boxes of 20: they part when dx times 2^z is 20.
        for (int dx = 0; dx <= 21; dx++) {
            NameChart c = chart(SPOT, 500, 500, 500 + dx, 500);
            for (int zoom = 0; zoom <= 6; zoom++) {
                due(dx + " apart at ZOOM " + zoom, c.clash(0, 0, 1, 0, zoom), dx << zoom < 20 ? 1 : 0);
            }
        }
        // A dot 1 off both ways is in WAY 3, wide and high 30, while 2 < 2^z < 32.
        NameChart d = sized(SPOT, 500, 500, 30, 30);
        d.dot(501, 501);
        int[] open = {1, 1, 0, 0, 0, 1, 1};
        for (int zoom = 0; zoom <= 6; zoom++) {
            due("a DOT 1 off at ZOOM " + zoom, d.way(0, 3, zoom, 5), open[zoom]);
        }
        // LED: the line of WAY 12 reaches 50, the box 60.
        for (int dx = 0; dx <= 62; dx++) {
            NameChart c = chart(LED, 500, 500, 500 + dx, 500);
            for (int zoom = 0; zoom <= 6; zoom++) {
                due("LED, " + dx + " apart at ZOOM " + zoom, c.clash(0, 12, 1, 12, zoom), dx << zoom < 60 ? 1 : 0);
            }
        }
        // At THE CHART's far corner the numbers are the greatest.
        NameChart far = chart(LED, 1000, 1000, 999, 999);
        far.size(0, 300, 80);
        far.size(1, 300, 80);
        due("at (64000, 64000): BOXES", far.clash(0, 9, 1, 9, 6), 1);
        due("at (64000, 64000): LINES", far.clash(0, 9, 1, 8, 6), 1);
        due("at (64000, 64000): apart", far.clash(0, 11, 1, 9, 6), 0);
        NameChart wide = chart(LED, 0, 1000, 1000, 0);
        wide.size(0, 300, 80);
        wide.size(1, 300, 80);
        for (int way = 8; way < 16; way++) {
            due("from corner to corner, WAY " + way, wide.clash(0, way, 1, 23 - way, 6), 0);
        }
    }

    private static void steadyIs(String what, NameChart c, int n, int zoom, int way) {
        due(what + ": ZOOM of " + n, c.steady(n, 0), zoom);
        due(what + ": WAY of " + n, c.steady(n, 1), way);
    }

    private static NameChart greatWithDots(int... dots) {
        NameChart c = sized(SPOT, 500, 500, 300, 80);
        for (int i = 0; i + 1 < dots.length; i += 2) {
            c.dot(500 + dots[i], 500 + dots[i + 1]);
        }
        return c;
    }

    /** At ZOOM 5 a DOT 5 off is 160 off and within 302, at ZOOM 6 it is 320 off. */
    private static void steadyFromTheLastZoom() {
        NameChart c = greatWithDots(5, 1, -5, 1, 5, -1, -5, -1, 0, 2, 0, -2);
        for (int way = 0; way < 8; way++) {
            due("WAY " + way + " at ZOOM 5", c.way(0, way, 5, 5), 0);
            due("WAY " + way + " at ZOOM 6", c.way(0, way, 6, 5), 1);
        }
        steadyIs("OPEN from ZOOM 6 on", c, 0, 6, 0);
        due("there(5)", c.there(5), 0);
        due("there(6)", c.there(6), 1);
        due("OPEN at ZOOM 0, which is not enough", c.way(0, 0, 0, 5), 1);
        NameChart d = greatWithDots(5, 1, -5, 1, 5, -1, -5, -1);
        steadyIs("WAY 6 is OPEN from ZOOM 5 on", d, 0, 5, 6);
        due("there(4)", d.there(4), 0);
        due("there(5)", d.there(5), 1);
    }

    /** At ZOOM 6 a DOT 4 off is 256 off, one 1 off 64. */
    private static void steadyNever() {
        NameChart c = greatWithDots(4, 1, -4, 1, 4, -1, -4, -1, 4, 0, -4, 0, 0, 1, 0, -1);
        for (int way = 0; way < 8; way++) {
            due("WAY " + way + " at ZOOM 6", c.way(0, way, 6, 5), 0);
        }
        steadyIs("never", c, 0, NONE, NONE);
        for (int zoom = 0; zoom <= 6; zoom++) {
            due("there(" + zoom + ")", c.there(zoom), 0);
        }
        NameChart heap = chart(SPOT, 500, 500, 500, 500, 500, 500, 500, 500, 500, 500);
        steadyIs("the fourth of one place", heap, 3, 0, 3);
        steadyIs("the fifth of one place", heap, 4, NONE, NONE);
        NameChart corner = chart(MUST, 0, 0, 0, 0);
        steadyIs("a MUST", corner, 0, 0, 3);
        steadyIs("a second MUST is LEFT, too", corner, 1, NONE, NONE);
        due("there(6)", corner.there(6), 1);
    }

    private static void steadyZoomAheadOfWay() {
        NameChart c = chart(SPOT, 500, 9);
        // WAYS 0 and 1 are over the top at ZOOM 0.
        steadyIs("WAY 2 at ZOOM 0 ahead of WAY 0 at ZOOM 1", c, 0, 0, 2);
        c.move(0, 500, 10);
        steadyIs("a side on the side", c, 0, 0, 0);
        // The least WAY, not the cheapest: WAY 5 costs 25, WAY 8 of a turned one 20.
        NameChart turned = chart(TURNED, 500, 500);
        turned.size(0, 300, 8);
        int[][] dots = {{780, 495}, {220, 495}, {220, 505}, {780, 505}, {780, 500}};
        for (int[] d : dots) {
            turned.dot(d[0], d[1]);
        }
        due("WAY 4 is shut at ZOOM 0", turned.way(0, 4, 0, 5), 0);
        due("WAY 5 is OPEN at ZOOM 0", turned.way(0, 5, 0, 5), 1);
        due("WAY 8 is OPEN at ZOOM 0", turned.way(0, 8, 0, 5), 1);
        steadyIs("the least WAY", turned, 0, 0, 5);
    }

    private static void steadyBesideOneThatComesLater() {
        // All WAYS of name 0 are shut at ZOOM 0 and OPEN from ZOOM 1 on.
        NameChart c = greatWithDots(180, 41, -180, 41, 180, -41, -180, -41, 180, 0, -180, 0, 0, 41, 0, -41);
        c.name(SPOT, 700, 459);
        steadyIs("the first, from ZOOM 1 on", c, 0, 1, 0);
        due("WAYS 0 of both CLASH at ZOOM 0", c.clash(0, 0, 1, 0, 0), 1);
        due("and not at ZOOM 1", c.clash(0, 0, 1, 0, 1), 0);
        steadyIs("the second, at ZOOM 0", c, 1, 0, 0);
        due("there(0)", c.there(0), 1);
        due("there(1)", c.there(1), 2);
    }

    private static void steadyBesideOneThatIsThere() {
        // WAY 0 of both, 20 wide: apart when dx times 2^z is 20.
        int[][] want = {{20, 0, 0}, {19, 0, 2}};
        for (int[] w : want) {
            NameChart c = chart(SPOT, 500, 500, 500 + w[0], 500);
            steadyIs(w[0] + " apart", c, 0, 0, 0);
            steadyIs(w[0] + " apart", c, 1, w[1], w[2]);
        }
        // Five within one: the last has to wait until it is 20 or more off, as far as others are not in its way.
        NameChart wait = chart(SPOT, 500, 500, 500, 500, 500, 500, 500, 500, 501, 500);
        steadyIs("the fifth, 1 beside", wait, 4, 5, 0);
        due("there(4)", wait.there(4), 4);
        due("there(5)", wait.there(5), 5);
        wait.weigh(4, 101);
        steadyIs("ahead of the others", wait, 4, 0, 0);
        wait.weigh(4, 1);
        steadyIs("the lightest", wait, 4, 5, 0);
        wait.name(MUST, 500, 500);
        wait.weigh(5, 1);
        steadyIs("a MUST of WEIGHT 1 ahead of all", wait, 5, 0, 0);
        steadyIs("the others one WAY farther", wait, 2, 0, 3);
        steadyIs("so that one of them is LEFT", wait, 3, NONE, NONE);
    }

    private static void steadyRefused() {
        NameChart c = chart(SPOT, 500, 500);
        int[] whats = {LOW, -2, -1, 0, 1, 2, 3, HIGH};
        for (int what : whats) {
            due("steady(0, " + what + ")", c.steady(0, what), what == 0 || what == 1 ? 0 : BAD);
            due("steady(1, " + what + ")", c.steady(1, what), BAD);
            due("steady(-1, " + what + ")", c.steady(-1, what), BAD);
        }
        NameChart full = new NameChart();
        for (int n = 0; n < 24; n++) {
            full.name(SPOT, 0, 0);
        }
        steadyIs("the first of 24", full, 0, 0, 3);
        steadyIs("the last of 24", full, 23, NONE, NONE);
        due("steady(24, 0)", full.steady(24, 0), BAD);
    }

    private static void theres() {
        int[] zooms = {LOW, -2, -1, 0, 1, 5, 6, 7, 8, HIGH};
        for (int zoom : zooms) {
            NameChart c = new NameChart();
            boolean good = zoom >= 0 && zoom <= 6;
            due("there(" + zoom + ") of none", c.there(zoom), good ? 0 : BAD);
            for (int n = 0; n < 24; n++) {
                c.name(n % 4, 100 + 160 * (n % 5), 100 + 160 * (n / 5));
            }
            due("there(" + zoom + ") of 24", c.there(zoom), good ? 24 : BAD);
        }
    }

    // ---- changes

    private static void eightAreKept() {
        for (int many = 1; many <= 20; many++) {
            NameChart c = chart(SPOT, 500, 500);
            for (int i = 1; i < many; i++) {
                c.move(0, i, i);
            }
            int kept = Math.min(8, many);
            due(many + " changes", c.count(3), kept);
            for (int left = kept - 1; left >= 0; left--) {
                due(many + " changes, undo()", c.undo(), left);
                due(many + " changes, count(3)", c.count(3), left);
            }
            due(many + " changes, one undo() too many", c.undo(), NO);
            due(many + " changes, another", c.undo(), NO);
            due(many + " changes, the NAME", c.count(0), many > 8 ? 1 : 0);
            due(many + " changes, where it is", c.about(0, 1), many > 9 ? many - 9 : many == 9 ? 500 : BAD);
        }
    }

    /** Changes and undos by turns, so that the ring is at every place of it. */
    private static void ringGoesRound() {
        NameChart c = chart(SPOT, 500, 500);
        int[] stack = new int[200];
        int depth = 0;
        int kept = 1;
        int x = 500;
        for (int i = 1; i <= 60; i++) {
            int forth = i % 5 + 1;
            for (int k = 0; k < forth; k++) {
                stack[depth] = x;
                depth++;
                x = (37 * i + 11 * k) % 1000;
                c.move(0, x, 3);
                kept = Math.min(8, kept + 1);
            }
            int back = Math.min(kept - 1, i % 4);
            for (int k = 0; k < back; k++) {
                depth--;
                x = stack[depth];
                kept--;
                due("undo() " + k + " of round " + i, c.undo(), kept);
            }
            due("x of round " + i, c.about(0, 1), x);
        }
    }

    private static void undoneToTheFirst() {
        NameChart c = new NameChart();
        c.name(MUST, 500, 500);
        c.dot(510, 495);
        c.size(0, 21, 9);
        c.weigh(0, 7);
        c.move(0, 600, 500);
        c.set(0, 7);
        c.best();
        c.free(0);
        due("free is undone", c.undo(), 7);
        due("so BEST is in hand", c.chosen(0), 0);
        due("best is undone", c.undo(), 6);
        due("so WAY 7 is in hand", c.chosen(0), 7);
        due("set is undone", c.undo(), 5);
        due("so it is LEFT", c.chosen(0), NONE);
        due("move is undone", c.undo(), 4);
        due("so it is at 500", c.about(0, 1), 500);
        due("and WAY 0 is not OPEN", c.way(0, 0, 0, 5), 0);
        due("weigh is undone", c.undo(), 3);
        due("so its WEIGHT is 100", c.about(0, 5), 100);
        due("size is undone", c.undo(), 2);
        due("so it is 20 wide", c.about(0, 3), 20);
        due("and 8 high", c.about(0, 4), 8);
        due("dot is undone", c.undo(), 1);
        due("so there is none", c.count(1), 0);
        due("and WAY 0 is OPEN", c.way(0, 0, 0, 5), 1);
        due("name is undone", c.undo(), 0);
        due("so there is none", c.count(0), 0);
        due("nothing is kept", c.undo(), NO);
        due("a new NAME has the number 0", c.name(0, 1, 1), 0);
        due("a new DOT has the number 0", c.dot(1, 1), 0);
    }

    private static void changesThatAreNone() {
        NameChart c = chart(SPOT, 500, 500);
        due("one change", c.count(3), 1);
        c.move(0, 500, 500);
        due("a move to the same place", c.count(3), 2);
        c.weigh(0, 100);
        due("the same WEIGHT", c.count(3), 3);
        c.size(0, 20, 8);
        due("the same size", c.count(3), 4);
        c.set(0, 0);
        c.set(0, 0);
        due("the same WAY", c.count(3), 6);
        c.best();
        due("BEST as it is", c.count(3), 7);
        c.quick();
        due("QUICK as it is", c.count(3), 8);
        c.quick();
        due("QUICK again", c.count(3), 8);
        NameChart empty = new NameChart();
        empty.quick();
        empty.best();
        due("QUICK and BEST of nothing", empty.count(3), 2);
        due("an undo() is no change", empty.undo(), 1);
        due("so the next takes back the one ahead", empty.undo(), 0);
        due("and then there is none", empty.undo(), NO);
    }

    private static void fullAndUndone() {
        NameChart c = new NameChart();
        for (int n = 0; n < 24; n++) {
            c.name(SPOT, 0, 0);
        }
        for (int d = 0; d < 20; d++) {
            c.dot(1000, 1000);
        }
        due("a 25th NAME", c.name(SPOT, 0, 0), FULL);
        due("a 21st DOT", c.dot(0, 0), FULL);
        for (int left = 7; left >= 0; left--) {
            due("undo()", c.undo(), left);
            due("DOTS", c.count(1), 12 + left);
            due("NAMES", c.count(0), 24);
        }
        due("undo()", c.undo(), NO);
        for (int d = 12; d < 20; d++) {
            due("a DOT again", c.dot(5, 5), d);
        }
        due("a 21st DOT again", c.dot(0, 0), FULL);
    }

    // ---- places

    private static void placesAsked() {
        NameChart c = chart(SPOT, 0, 0, 1000, 1000);
        int[] edge = {LOW, -1, 0, 1, 999, 1000, 1001, HIGH};
        for (int x : edge) {
            for (int y : edge) {
                boolean on = x >= 0 && x <= 1000 && y >= 0 && y <= 1000;
                due("at(" + x + ", " + y + ")", c.at(x, y), on ? NONE : BAD);
            }
        }
        // Boxes by hand over the sides: 2 .. 22 by -4 .. 4, and 978 .. 998 by 996 .. 1004.
        c.set(0, 4);
        c.set(1, 5);
        due("at(3, 0)", c.at(3, 0), 0);
        due("at(2, 0)", c.at(2, 0), NONE);
        due("at(3, 3)", c.at(3, 3), 0);
        due("at(3, 4)", c.at(3, 4), NONE);
        due("at(3, -1)", c.at(3, -1), BAD);
        due("at(997, 1000)", c.at(997, 1000), 1);
        due("at(998, 1000)", c.at(998, 1000), NONE);
        due("at(997, 1001)", c.at(997, 1001), BAD);
        c.move(1, 5, 0);
        c.set(1, 4);
        due("at(10, 0), the least of two", c.at(10, 0), 0);
        due("at(23, 0), the other", c.at(23, 0), 1);
        c.free(0);
        due("at(10, 0), the first LEFT", c.at(10, 0), 1);
        // A LINE covers nothing.
        NameChart led = chart(LED, 500, 500);
        led.set(0, 12);
        due("at(520, 500), on the LINE", led.at(520, 500), NONE);
        due("at(541, 500), in the BOX", led.at(541, 500), 0);
    }

    private static void windowSizes() {
        NameChart c = chart(SPOT, 500, 500);
        c.set(0, 3);
        int[] edge = {LOW, -1000, -1, 0, 1, 2, 999, 1000, 1001, 1002, HIGH};
        for (int w : edge) {
            for (int h : edge) {
                boolean good = w >= 1 && w <= 1000 && h >= 1 && h <= 1000;
                due("find(510, 505, " + w + ", " + h + ", 0)", c.find(510, 505, w, h, 0), good ? 0 : BAD);
            }
        }
        int[] places = {LOW, -1, 0, 1000, 1001, HIGH};
        for (int x : places) {
            for (int y : places) {
                boolean good = x >= 0 && x <= 1000 && y >= 0 && y <= 1000;
                int far = x == 0 && y == 0 ? 0 : NONE;
                due("find(" + x + ", " + y + ", 1000, 1000, 0)", c.find(x, y, 1000, 1000, 0), good ? far : BAD);
                due("find(" + x + ", " + y + ", 1, 1, 0)", c.find(x, y, 1, 1, 0), good ? NONE : BAD);
            }
        }
        int[] many = {LOW, -2, -1, 0, 1, HIGH};
        for (int i : many) {
            due("find(0, 0, 1000, 1000, " + i + ")", c.find(0, 0, 1000, 1000, i), i < 0 ? BAD : i == 0 ? 0 : NONE);
        }
    }

    /** WAY 3 is the box from 502 to 522, 502 to 510. */
    private static void windowsBesideABox() {
        NameChart c = chart(SPOT, 500, 500);
        c.set(0, 3);
        int[][] want = {{492, 502, 10, 8, NONE}, {492, 502, 11, 8, 0}, {522, 502, 10, 8, NONE}, {521, 502, 10, 8, 0},
            {502, 492, 20, 10, NONE}, {502, 492, 20, 11, 0}, {502, 510, 20, 10, NONE}, {502, 509, 20, 10, 0},
            {501, 501, 1, 1, NONE}, {502, 502, 1, 1, 0}, {521, 509, 1, 1, 0}, {522, 510, 1, 1, NONE},
            {500, 500, 100, 100, 0}, {510, 505, 2, 2, 0}, {0, 0, 502, 1000, NONE}, {0, 0, 503, 1000, 0},
            {0, 0, 1000, 502, NONE}, {0, 0, 1000, 503, 0}, {492, 492, 10, 10, NONE}, {492, 492, 11, 11, 0}};
        for (int[] w : want) {
            due("find(" + w[0] + ", " + w[1] + ", " + w[2] + ", " + w[3] + ", 0)", c.find(w[0], w[1], w[2], w[3], 0), w[4]);
        }
        // 1 wide and high, it has no whole place inside, but places all the same.
        c.size(0, 1, 1);
        due("a BOX of 1 by 1 in a window of 1 by 1", c.find(502, 502, 1, 1, 0), 0);
        due("a window beside it", c.find(501, 502, 1, 1, 0), NONE);
        due("a window below it", c.find(502, 503, 1, 1, 0), NONE);
        // A window may go over THE CHART's side, and so may a BOX.
        NameChart far = chart(SPOT, 1000, 1000);
        far.set(0, 3);
        due("a BOX past the far corner", far.find(1000, 1000, 3, 3, 0), 0);
        due("a window up to it", far.find(1000, 1000, 2, 2, 0), NONE);
        // A LINE is not asked for.
        NameChart led = chart(LED, 500, 500);
        led.set(0, 12);
        due("a window on the LINE", led.find(510, 495, 10, 10, 0), NONE);
        due("a window on the BOX", led.find(531, 495, 10, 10, 0), 0);
    }

    private static void namesInAWindow() {
        NameChart c = new NameChart();
        for (int n = 0; n < 24; n++) {
            c.name(SPOT, 500, 500);
            due("LEFT", c.find(0, 0, 1000, 1000, 0), n == 0 ? NONE : 0);
            c.set(n, n % 8);
            due("the last", c.find(0, 0, 1000, 1000, n), n);
            due("one more", c.find(0, 0, 1000, 1000, n + 1), NONE);
        }
        c.free(0);
        c.free(10);
        c.free(23);
        int[] rest = {1, 2, 3, 4, 5, 6, 7, 8, 9, 11, 12, 13, 14, 15, 16, 17, 18, 19, 20, 21, 22};
        for (int i = 0; i < rest.length; i++) {
            due("NAME " + i, c.find(0, 0, 1000, 1000, i), rest[i]);
        }
        due("NAME 21", c.find(0, 0, 1000, 1000, 21), NONE);
        due("NAME HIGH", c.find(0, 0, 1000, 1000, HIGH), NONE);
        due("NAME -1", c.find(0, 0, 1000, 1000, -1), BAD);
        due("NAME LOW", c.find(0, 0, 1000, 1000, LOW), BAD);
    }

    // ---- how long an object is used

    private static void fiveHundredAndTwelveCalls() {
        NameChart c = chart(SPOT, 500, 500);
        for (int i = 2; i <= 503; i++) {
            due("call " + i, c.set(0, i % 8), i == 2 ? NONE : (i - 1) % 8);
        }
        for (int i = 504; i <= 511; i++) {
            due("call " + i, c.undo(), 511 - i);
        }
        due("call 512", c.undo(), NO);
        NameChart names = new NameChart();
        for (int i = 1; i <= 512; i++) {
            due("name of call " + i, names.name(i % 4, 500, 500), i <= 24 ? i - 1 : FULL);
        }
        NameChart dots = new NameChart();
        for (int i = 1; i <= 512; i++) {
            due("dot of call " + i, dots.dot(500, 500), i <= 20 ? i - 1 : FULL);
        }
        NameChart best = chart(SPOT, 500, 500, 500, 500, 500, 500);
        for (int i = 4; i <= 512; i++) {
            due("best of call " + i, best.best(), 58500);
        }
    }
}
