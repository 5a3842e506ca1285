/** A method for each promise of the document: ordinary calls, the edges that it names, and wrong ones. */
public final class PromiseTests {
    private static final int NONE = -1, BAD = -3, NO = -4, FULL = -5, LARGE = -6;
    private static final int LOW = Integer.MIN_VALUE, HIGH = Integer.MAX_VALUE;

    private static int promise = 0;
    private static int asked = 0;
    private static int wrong = 0;

    private static void due(String call, int got, int want) {
        asked++;
        if (got != want) {
            wrong++;
            System.out.println("promise " + promise + ": " + call + " answered " + got + ", due is " + want);
        }
    }

    public static void main(String[] args) {
        promise = 1;
        newObject();
        promise = 2;
        name();
        promise = 3;
        dot();
        promise = 4;
        move();
        promise = 5;
        weigh();
        promise = 6;
        size();
        promise = 7;
        about();
        promise = 8;
        isOf();
        promise = 9;
        way();
        openWay();
        promise = 10;
        clash();
        clashOfLines();
        clashOfCornerAndLine();
        clashAtZooms();
        promise = 11;
        clashes();
        promise = 12;
        parts();
        promise = 13;
        set();
        promise = 14;
        free();
        promise = 15;
        chosen();
        promise = 16;
        check();
        promise = 17;
        worth();
        promise = 18;
        best();
        bestOfEqualOnes();
        bestLargeOrNone();
        promise = 19;
        quick();
        promise = 20;
        why();
        promise = 21;
        slack();
        promise = 22;
        steady();
        promise = 23;
        there();
        promise = 24;
        at();
        promise = 25;
        find();
        promise = 26;
        undo();
        undoOfEachChange();
        refusedCallsChangeNothing();
        promise = 27;
        count();
        promise = 0;
        exampleOfReadme();
        System.out.println(asked + " answers, " + wrong + " of them wrong");
        if (wrong != 0) {
            System.exit(1);
        }
    }

    /** A chart with names at these places, of one kind. */
    private static NameChart chart(int kind, int... places) {
        NameChart c = new NameChart();
        for (int i = 0; i + 1 < places.length; i += 2) {
            c.name(kind, places[i], places[i + 1]);
        }
        return c;
    }

    /** A turned name whose ways 0 .. 3 cover dots, so that 4 and 8 are its cheapest open ones. */
    private static NameChart turnedWithCornersShut() {
        NameChart c = chart(1, 500, 500);
        c.size(0, 100, 8);
        c.dot(590, 495);
        c.dot(410, 495);
        c.dot(410, 505);
        c.dot(590, 505);
        return c;
    }

    private static void newObject() {
        NameChart c = new NameChart();
        for (int what = 0; what <= 5; what++) {
            due("count(" + what + ")", c.count(what), 0);
        }
        due("chosen(0)", c.chosen(0), BAD);
        due("undo()", c.undo(), NO);
        NameChart other = new NameChart();
        c.name(0, 5, 5);
        due("count(0) of another object", other.count(0), 0);
        due("NONE", NameChart.NONE, NONE);
        due("BAD", NameChart.BAD, BAD);
        due("NO", NameChart.NO, NO);
        due("FULL", NameChart.FULL, FULL);
        due("LARGE", NameChart.LARGE, LARGE);
    }

    private static void name() {
        NameChart c = new NameChart();
        due("name(0, 0, 0)", c.name(0, 0, 0), 0);
        due("name(3, 1000, 1000)", c.name(3, 1000, 1000), 1);
        due("name(1, 0, 1000)", c.name(1, 0, 1000), 2);
        due("name(2, 1000, 0)", c.name(2, 1000, 0), 3);
        due("width", c.about(3, 3), 20);
        due("height", c.about(3, 4), 8);
        due("weight", c.about(3, 5), 100);
        due("chosen(3)", c.chosen(3), NONE);
        int[][] bad = {{-1, 5, 5}, {4, 5, 5}, {0, -1, 5}, {0, 1001, 5}, {0, 5, -1}, {0, 5, 1001},
            {LOW, 5, 5}, {HIGH, 5, 5}, {0, LOW, 5}, {0, HIGH, 5}, {0, 5, LOW}, {0, 5, HIGH}};
        for (int[] b : bad) {
            due("name(" + b[0] + ", " + b[1] + ", " + b[2] + ")", c.name(b[0], b[1], b[2]), BAD);
        }
        for (int n = 4; n < 24; n++) {
            due("name " + n, c.name(n % 4, 10 * n, 500), n);
        }
        due("a 25th name", c.name(0, 5, 5), FULL);
        due("a 25th name of no kind", c.name(4, 5, 5), BAD);
        due("count(0)", c.count(0), 24);
    }

    private static void dot() {
        NameChart c = new NameChart();
        int[][] bad = {{-1, 5}, {1001, 5}, {5, -1}, {5, 1001}, {LOW, 5}, {5, HIGH}};
        for (int[] b : bad) {
            due("dot(" + b[0] + ", " + b[1] + ")", c.dot(b[0], b[1]), BAD);
        }
        due("dot(0, 0)", c.dot(0, 0), 0);
        due("dot(1000, 1000)", c.dot(1000, 1000), 1);
        due("dot(0, 0) again", c.dot(0, 0), 2);
        for (int d = 3; d < 20; d++) {
            due("dot " + d, c.dot(d, d), d);
        }
        due("a 21st dot", c.dot(5, 5), FULL);
        due("a 21st dot off the chart", c.dot(5, 1001), BAD);
        due("count(1)", c.count(1), 20);
    }

    private static void move() {
        NameChart c = chart(0, 500, 500, 700, 700);
        c.set(0, 3);
        due("move(0, 0, 1000)", c.move(0, 0, 1000), 0);
        due("x", c.about(0, 1), 0);
        due("y", c.about(0, 2), 1000);
        due("its way stays in hand", c.chosen(0), 3);
        due("which is not open there", c.check(), 100);
        due("x of the other", c.about(1, 1), 700);
        due("move(1, 1000, 0)", c.move(1, 1000, 0), 0);
        int[][] bad = {{2, 5, 5}, {-1, 5, 5}, {0, -1, 5}, {0, 1001, 5}, {0, 5, -1}, {0, 5, 1001}, {LOW, 5, 5},
            {HIGH, 5, 5}};
        for (int[] b : bad) {
            due("move(" + b[0] + ", " + b[1] + ", " + b[2] + ")", c.move(b[0], b[1], b[2]), BAD);
        }
    }

    private static void weigh() {
        NameChart c = chart(0, 500, 500, 700, 700);
        due("weigh(0, 1)", c.weigh(0, 1), 100);
        due("weigh(0, 1000)", c.weigh(0, 1000), 1);
        due("weight", c.about(0, 5), 1000);
        due("weight of the other", c.about(1, 5), 100);
        due("weigh(0, 0)", c.weigh(0, 0), BAD);
        due("weigh(0, 1001)", c.weigh(0, 1001), BAD);
        due("weigh(0, LOW)", c.weigh(0, LOW), BAD);
        due("weigh(2, 5)", c.weigh(2, 5), BAD);
        due("weigh(-1, 5)", c.weigh(-1, 5), BAD);
        due("weight after wrong ones", c.about(0, 5), 1000);
    }

    private static void size() {
        NameChart c = chart(0, 500, 500);
        due("size(0, 1, 1)", c.size(0, 1, 1), 0);
        due("size(0, 300, 80)", c.size(0, 300, 80), 0);
        due("width", c.about(0, 3), 300);
        due("height", c.about(0, 4), 80);
        int[][] bad = {{0, 0, 1}, {0, 1, 0}, {0, 301, 1}, {0, 1, 81}, {1, 5, 5}, {-1, 5, 5}, {0, LOW, 5}, {0, 5, HIGH}};
        for (int[] b : bad) {
            due("size(" + b[0] + ", " + b[1] + ", " + b[2] + ")", c.size(b[0], b[1], b[2]), BAD);
        }
        due("width after wrong ones", c.about(0, 3), 300);
    }

    private static void about() {
        NameChart c = chart(1, 500, 400);
        c.name(0, 0, 0);
        c.size(0, 31, 7);
        c.weigh(0, 77);
        int[] want = {1, 500, 400, 31, 7, 77, 16, 16, 0};
        for (int what = 0; what < want.length; what++) {
            due("about(0, " + what + ")", c.about(0, what), want[what]);
        }
        due("ways of a spot", c.about(1, 6), 8);
        due("open ways in the corner", c.about(1, 7), 1);
        due("its part", c.about(1, 8), 1);
        due("about(0, -1)", c.about(0, -1), BAD);
        due("about(0, 9)", c.about(0, 9), BAD);
        due("about(2, 0)", c.about(2, 0), BAD);
        due("about(-1, 0)", c.about(-1, 0), BAD);
        due("about(HIGH, 8)", c.about(HIGH, 8), BAD);
        c.move(1, 505, 395);
        due("its part when moved near", c.about(1, 8), 0);
        due("open ways: 0, 6, 8, 12, 14 cover the other's place", c.about(0, 7), 11);
    }

    private static void isOf() {
        NameChart c = new NameChart();
        int[][] want = {{1, 0, 0, 0}, {1, 1, 0, 0}, {1, 0, 1, 0}, {1, 0, 1, 1}};
        for (int kind = 0; kind < 4; kind++) {
            c.name(kind, 100 * kind, 500);
            for (int asked = 0; asked < 4; asked++) {
                due("isOf(" + kind + ", " + asked + ")", c.isOf(kind, asked), want[kind][asked]);
            }
        }
        due("isOf(0, -1)", c.isOf(0, -1), BAD);
        due("isOf(0, 4)", c.isOf(0, 4), BAD);
        due("isOf(4, 0)", c.isOf(4, 0), BAD);
        due("isOf(-1, 0)", c.isOf(-1, 0), BAD);
    }

    private static void wayIs(NameChart c, int n, int way, int zoom, int... want) {
        for (int what = 0; what < want.length; what++) {
            due("way(" + n + ", " + way + ", " + zoom + ", " + what + ")", c.way(n, way, zoom, what), want[what]);
        }
    }

    private static void way() {
        NameChart c = chart(0, 500, 400);
        c.size(0, 31, 7);
        int[][] near = {{502, 391}, {467, 391}, {467, 402}, {502, 402}, {502, 397}, {467, 397}, {485, 391}, {485, 402}};
        for (int k = 0; k < 8; k++) {
            wayIs(c, 0, k, 0, near[k][0], near[k][1], 31, 7, 5 * k, 1);
        }
        wayIs(c, 0, 6, 6, 32000 - 15, 25600 - 2 - 7, 31, 7, 30, 1);
        due("way(0, 8, 0, 0) of a spot", c.way(0, 8, 0, 0), BAD);

        c.name(1, 600, 700);
        c.size(1, 31, 7);
        int[][] turned = {{602, 684}, {582, 684}, {582, 702}, {602, 702}, {602, 693}, {582, 693}, {592, 684}, {592, 702}};
        for (int k = 0; k < 8; k++) {
            wayIs(c, 1, 8 + k, 0, turned[k][0], turned[k][1], 16, 14, 5 * k + 20, 1);
        }

        c.name(2, 300, 300);
        c.name(3, 300, 800);
        c.size(2, 31, 7);
        c.size(3, 31, 7);
        int[][] led = {{340, 253}, {229, 253}, {229, 340}, {340, 340}, {340, 297}, {229, 297}, {285, 253}, {285, 340}};
        for (int k = 0; k < 8; k++) {
            wayIs(c, 2, 8 + k, 0, led[k][0], led[k][1], 31, 7, 5 * k + 50, 1);
            wayIs(c, 3, 8 + k, 0, led[k][0], led[k][1] + 500, 31, 7, 5 * k + 50, 1);
        }
        wayIs(c, 2, 9, 1, 600 - 40 - 31, 600 - 40 - 7, 31, 7, 55, 1);
        int[][] bad = {{-1, 0, 0, 0}, {4, 0, 0, 0}, {0, -1, 0, 0}, {3, 16, 0, 0}, {0, 0, -1, 0}, {0, 0, 7, 0},
            {0, 0, 0, -1}, {0, 0, 0, 6}, {LOW, LOW, LOW, LOW}, {HIGH, HIGH, HIGH, HIGH}};
        for (int[] b : bad) {
            due("way(" + b[0] + ", " + b[1] + ", " + b[2] + ", " + b[3] + ")", c.way(b[0], b[1], b[2], b[3]), BAD);
        }
    }

    private static void openWay() {
        NameChart c = chart(0, 22, 10);
        due("sides on the chart's sides", c.way(0, 1, 0, 5), 1);
        c.move(0, 21, 10);
        due("over the left side", c.way(0, 1, 0, 5), 0);
        c.move(0, 22, 9);
        due("over the top", c.way(0, 1, 0, 5), 0);
        c.move(0, 978, 990);
        due("right and bottom sides on the chart's", c.way(0, 3, 0, 5), 1);
        c.move(0, 979, 990);
        due("over the right side", c.way(0, 3, 0, 5), 0);
        due("not so at zoom 1", c.way(0, 3, 1, 5), 1);
        c.move(0, 978, 991);
        due("over the bottom", c.way(0, 3, 0, 5), 0);
        due("not so at zoom 6", c.way(0, 3, 6, 5), 1);

        NameChart d = chart(0, 500, 500);
        int[][] border = {{502, 502}, {522, 510}, {512, 502}, {512, 510}, {502, 506}, {522, 506}};
        for (int[] b : border) {
            d.dot(b[0], b[1]);
            due("a dot on the border at " + b[0] + ", " + b[1], d.way(0, 3, 0, 5), 1);
        }
        NameChart e = chart(0, 500, 500);
        e.dot(503, 503);
        due("a dot inside", e.way(0, 3, 0, 5), 0);
        due("inside at zoom 1: (1006, 1006)", e.way(0, 3, 1, 5), 0);
        due("not inside at zoom 2: (2012, 2012)", e.way(0, 3, 2, 5), 1);
        due("another way", e.way(0, 2, 0, 5), 1);
        d.name(0, 521, 509);
        due("a name's place inside", d.way(0, 3, 0, 5), 0);
        d.move(1, 522, 509);
        due("a name's place on the side", d.way(0, 3, 0, 5), 1);
        d.move(1, 500, 500);
        due("a name at the same place", d.way(0, 3, 0, 5), 1);
    }

    private static void clash() {
        NameChart c = chart(0, 500, 500, 520, 500);
        due("boxes side by side", c.clash(0, 0, 1, 0, 0), 0);
        c.move(1, 519, 500);
        due("boxes that overlap by 1", c.clash(0, 0, 1, 0, 0), 1);
        due("the other way round", c.clash(1, 0, 0, 0, 0), 1);
        c.move(1, 500, 508);
        due("boxes one on the other", c.clash(0, 3, 1, 3, 0), 0);
        c.move(1, 500, 507);
        due("boxes that overlap by 1 in height", c.clash(0, 3, 1, 3, 0), 1);
        c.move(1, 520, 508);
        due("boxes corner to corner", c.clash(0, 3, 1, 3, 0), 0);
        c.move(1, 500, 500);
        c.size(1, 1, 1);
        due("a box within the other, with no whole place", c.clash(0, 4, 1, 4, 0), 1);
        c.move(1, 0, 0);
        due("a box that is not open clashes, too", c.clash(0, 0, 1, 0, 0), 0);
        c.move(0, 3, 0);
        due("two boxes off the chart", c.clash(0, 0, 1, 0, 0), 0);
        c.size(1, 5, 1);
        due("two boxes off the chart that overlap", c.clash(0, 0, 1, 0, 0), 1);
        c.name(3, 900, 900);
        int[][] bad = {{0, 0, 0, 1, 0}, {-1, 0, 0, 0, 0}, {0, 0, 3, 0, 0}, {0, 8, 1, 0, 0}, {0, 0, 1, 8, 0},
            {0, -1, 1, 0, 0}, {0, 0, 1, -1, 0}, {2, 16, 0, 0, 0}, {0, 0, 1, 0, -1}, {0, 0, 1, 0, 7}, {3, 0, 0, 0, 0},
            {0, 0, -1, 0, 0}, {HIGH, LOW, HIGH, LOW, HIGH}};
        for (int[] b : bad) {
            due("clash(" + b[0] + ", " + b[1] + ", " + b[2] + ", " + b[3] + ", " + b[4] + ")",
                c.clash(b[0], b[1], b[2], b[3], b[4]), BAD);
        }
    }

    private static void clashOfLines() {
        // Way 12 at (500, 500): the box 540 .. 560, 496 .. 504, the line to (550, 500).
        NameChart c = chart(2, 500, 500, 500, 500);
        due("lines from one place", c.clash(0, 12, 1, 13, 0), 1);
        c.move(1, 450, 500);
        due("lines on one straight line, apart", c.clash(0, 12, 1, 13, 0), 0);
        due("a line that ends where the other begins", c.clash(0, 12, 1, 12, 0), 1);
        c.move(1, 449, 500);
        due("lines that come one short, and box and line do not", c.clash(0, 12, 1, 12, 0), 1);
        c.move(1, 439, 500);
        due("the box's side at the line's start", c.clash(0, 12, 1, 12, 0), 0);
        c.move(1, 440, 500);
        due("the box's side at the line's start, exactly", c.clash(0, 12, 1, 12, 0), 0);
        c.move(1, 441, 500);
        due("the line's start inside the box", c.clash(0, 12, 1, 12, 0), 1);
        c.move(1, 520, 480);
        due("lines that cross", c.clash(0, 12, 1, 15, 0), 1);
        c.move(1, 520, 501);
        due("lines apart, but a box is hit", c.clash(0, 12, 1, 14, 0), 1);
        c.move(1, 520, 460);
        due("no line meets, box on the far side", c.clash(0, 12, 1, 14, 0), 0);
        c.move(1, 540, 500);
        due("near way over the line's end", c.clash(0, 12, 1, 5, 0), 1);
        due("near way above the line", c.clash(0, 12, 1, 1, 0), 0);
        c.move(1, 540, 502);
        due("a box whose side lies along the line", c.clash(0, 12, 1, 1, 0), 0);
        c.move(1, 540, 503);
        due("a box whose side is just below the line", c.clash(0, 12, 1, 1, 0), 1);
        // The middle at a half: with height 7 the box begins at y - 3 and its middle is at y + 1/2.
        c.size(0, 20, 7);
        c.move(1, 560, 490);
        c.size(1, 20, 8);
        due("a box down to 500 over the falling line", c.clash(0, 12, 1, 2, 0), 1);
        c.move(1, 522, 498);
        due("a box from 500 on, where the line has come below 500", c.clash(0, 12, 1, 2, 0), 1);
        c.size(0, 20, 8);
        due("a box from 500 on, where the line stays at 500", c.clash(0, 12, 1, 2, 0), 0);
    }

    /** The ways 8 .. 11 of a name at (500, 500), 20 wide and high, have diagonals for lines, 50 long each way. */
    private static void clashOfCornerAndLine() {
        int[] across = {1, -1, -1, 1};
        int[] down = {-1, -1, 1, 1};
        for (int k = 0; k < 4; k++) {
            for (int way = 0; way < 4; way++) {
                NameChart c = chart(2, 500, 500, 0, 0);
                c.size(0, 20, 20);
                c.size(1, 10, 10);
                int x = 500 + 10 * across[k] - 2 * across[way];
                int y = 500 + 10 * down[k] - 2 * down[way];
                boolean beside = across[k] * across[way] != down[k] * down[way];
                c.move(1, x, y);
                due("the line " + (8 + k) + " and a corner on it of the box " + way, c.clash(0, 8 + k, 1, way, 0),
                    beside ? 0 : 1);
                c.move(1, x - across[way], y);
                due("the line " + (8 + k) + " and a corner across it of the box " + way, c.clash(0, 8 + k, 1, way, 0), 1);
                c.move(1, x + across[way], y);
                due("the line " + (8 + k) + " and a corner short of it of the box " + way, c.clash(0, 8 + k, 1, way, 0),
                    beside ? 0 : 1);
            }
        }
    }

    private static void clashAtZooms() {
        NameChart c = chart(2, 500, 500, 510, 500);
        int[] near = {1, 0, 0, 0, 0, 0, 0};
        for (int zoom = 0; zoom <= 6; zoom++) {
            due("near ways at zoom " + zoom, c.clash(0, 0, 1, 0, zoom), near[zoom]);
        }
        int[] far = {1, 1, 1, 0, 0, 0, 0};
        for (int zoom = 0; zoom <= 6; zoom++) {
            due("led ways at zoom " + zoom, c.clash(0, 12, 1, 12, zoom), far[zoom]);
        }
    }

    private static void clashes() {
        NameChart c = chart(0, 500, 500);
        due("clashes(0, 0) alone", c.clashes(0, 0), 0);
        c.name(0, 500, 500);
        // Way 0 meets the other's 0, 4 and 6.
        due("clashes(0, 0)", c.clashes(0, 0), 3);
        due("clashes(0, 7) with 2, 3, 4, 5, 7", c.clashes(0, 7), 5);
        c.dot(510, 500);
        due("clashes(0, 0), the others' 4 is not open", c.clashes(0, 0), 2);
        due("clashes(0, 4), which is not open itself, with 0, 3, 6, 7", c.clashes(0, 4), 4);
        c.name(3, 500, 500);
        due("clashes(2, 15) with lines across 7", c.clashes(2, 15), 2);
        due("clashes(0, 8)", c.clashes(0, 8), BAD);
        due("clashes(2, 16)", c.clashes(2, 16), BAD);
        due("clashes(0, -1)", c.clashes(0, -1), BAD);
        due("clashes(3, 0)", c.clashes(3, 0), BAD);
        due("clashes(-1, 0)", c.clashes(-1, 0), BAD);
    }

    private static void parts() {
        NameChart c = new NameChart();
        due("parts()", c.parts(), 0);
        c.name(0, 100, 100);
        c.name(0, 500, 500);
        c.name(0, 900, 900);
        due("parts()", c.parts(), 3);
        c.name(0, 130, 100);
        due("parts() with two near", c.parts(), 3);
        due("part of 3", c.about(3, 8), 0);
        c.move(3, 144, 100);
        due("boxes that only touch", c.parts(), 4);
        due("part of 3", c.about(3, 8), 3);
        c.name(0, 122, 100);
        due("one between them joins", c.parts(), 3);
        due("part of 3", c.about(3, 8), 0);
        due("part of 4", c.about(4, 8), 0);
        due("part of 1", c.about(1, 8), 1);
        due("part of 2", c.about(2, 8), 2);

        NameChart d = chart(0, 700, 700, 500, 500, 730, 700);
        due("parts by their least names: part of 0", d.about(0, 8), 0);
        due("part of 1", d.about(1, 8), 1);
        due("part of 2", d.about(2, 8), 0);

        NameChart e = chart(0, 0, 0, 20, 0);
        due("ways that are not open join nobody", e.parts(), 1);
        e.dot(25, 5);
        due("all that clashed are shut", e.about(0, 7), 1);
        e.dot(10, 5);
        due("name 0 has none open", e.about(0, 7), 0);
        due("so it is a part by itself", e.parts(), 2);
    }

    private static void set() {
        NameChart c = chart(0, 500, 500, 500, 500);
        c.name(2, 0, 0);
        due("set(0, 7)", c.set(0, 7), NONE);
        due("set(0, 0)", c.set(0, 0), 7);
        due("set(0, 0) again", c.set(0, 0), 0);
        due("set(1, 0), whatever clashes", c.set(1, 0), NONE);
        due("set(2, 0), not open", c.set(2, 0), NONE);
        due("set(2, 15)", c.set(2, 15), 0);
        due("chosen(2)", c.chosen(2), 15);
        int[][] bad = {{0, 8}, {0, -1}, {2, 16}, {3, 0}, {-1, 0}, {LOW, HIGH}};
        for (int[] b : bad) {
            due("set(" + b[0] + ", " + b[1] + ")", c.set(b[0], b[1]), BAD);
        }
    }

    private static void free() {
        NameChart c = chart(2, 500, 500);
        due("free(0), left", c.free(0), NO);
        c.set(0, 11);
        due("free(0)", c.free(0), 11);
        due("free(0) again", c.free(0), NO);
        due("chosen(0)", c.chosen(0), NONE);
        c.set(0, 0);
        due("free(0) of way 0", c.free(0), 0);
        due("free(1)", c.free(1), BAD);
        due("free(-1)", c.free(-1), BAD);
    }

    private static void chosen() {
        NameChart c = chart(0, 500, 500, 600, 600);
        due("chosen(0)", c.chosen(0), NONE);
        c.set(1, 5);
        due("chosen(0)", c.chosen(0), NONE);
        due("chosen(1)", c.chosen(1), 5);
        due("chosen(2)", c.chosen(2), BAD);
        due("chosen(-1)", c.chosen(-1), BAD);
        due("chosen(LOW)", c.chosen(LOW), BAD);
    }

    private static void check() {
        NameChart c = new NameChart();
        due("check() of nothing", c.check(), 0);
        c.name(3, 500, 500);
        c.name(3, 500, 500);
        c.name(0, 0, 0);
        c.name(0, 900, 900);
        due("a must is left", c.check(), 300);
        c.set(0, 0);
        due("the other must is left", c.check(), 301);
        c.set(1, 4);
        due("two clash", c.check(), 200);
        c.set(2, 0);
        due("one is not open, ahead of the clash", c.check(), 102);
        c.free(0);
        due("one is not open, ahead of the must", c.check(), 102);
        c.set(2, 3);
        due("the must is left", c.check(), 300);
        c.set(0, 1);
        due("right", c.check(), 0);
        c.free(2);
        due("names that are no musts may be left", c.check(), 0);
        c.name(0, 900, 900);
        c.set(3, 0);
        c.set(4, 0);
        due("the least of two that clash", c.check(), 203);
        c.free(1);
        due("a clash ahead of a must", c.check(), 203);
    }

    private static void worth() {
        NameChart c = new NameChart();
        due("worth() of nothing", c.worth(), 0);
        c.name(0, 500, 500);
        c.name(1, 500, 500);
        c.name(2, 0, 0);
        due("worth(), all left", c.worth(), 0);
        c.set(0, 7);
        due("weight 100 times 200 - 35", c.worth(), 16500);
        c.weigh(1, 1000);
        c.set(1, 15);
        due("and weight 1000 times 200 - 55", c.worth(), 16500 + 145000);
        c.weigh(2, 1);
        c.set(2, 15);
        due("and weight 1 times 200 - 85, right or not", c.worth(), 16500 + 145000 + 115);
        c.free(1);
        due("less the left one", c.worth(), 16500 + 115);
    }

    private static void bestIs(String what, NameChart c, int worth, int... ways) {
        due(what + ": best()", c.best(), worth);
        for (int n = 0; n < ways.length; n++) {
            due(what + ": chosen(" + n + ")", c.chosen(n), ways[n]);
        }
    }

    private static void best() {
        bestIs("nothing", new NameChart(), 0);
        bestIs("one", chart(0, 500, 500), 20000, 0);
        NameChart corner = chart(0, 0, 0);
        bestIs("a corner", corner, 18500, 3);
        corner.dot(10, 5);
        bestIs("no way is open", corner, 0, NONE);

        // All ways but 0 .. 3 meet two of these, so five names on one place leave the one of least weight.
        NameChart heap = chart(0, 500, 500, 500, 500, 500, 500, 500, 500, 500, 500);
        bestIs("five on one place", heap, 20000 + 19500 + 19000 + 18500, 0, 1, 2, 3, NONE);
        heap.weigh(0, 50);
        bestIs("the lightest is left", heap, 77000, NONE, 0, 1, 2, 3);
        heap.weigh(4, 101);
        bestIs("the heaviest has the cheapest way", heap, 101 * 200 + 19500 + 19000 + 18500, NONE, 1, 2, 3, 0);

        // A turned one has way 8 at the price of way 4.
        NameChart turned = turnedWithCornersShut();
        bestIs("way 4 ahead of 8", turned, 18000, 4);
        turned.dot(590, 500);
        bestIs("way 8 ahead of 5", turned, 18000, 8);

        NameChart far = chart(2, 500, 500);
        for (int[] d : new int[][] {{510, 495}, {490, 495}, {490, 505}, {510, 505}, {510, 500}, {490, 500}, {500, 495},
            {500, 505}}) {
            far.dot(d[0], d[1]);
        }
        bestIs("only led ways are open", far, 15000, 8);

        // A must takes the only place from a name that is worth more.
        NameChart must = chart(0, 0, 0);
        must.weigh(0, 1000);
        must.name(3, 0, 0);
        must.weigh(1, 1);
        must.dot(50, 45);
        bestIs("a must of weight 1", must, 185, NONE, 3);

        NameChart kept = chart(0, 500, 500);
        kept.set(0, 5);
        kept.best();
        due("best() is one change", kept.undo(), 2);
        due("undone", kept.chosen(0), 5);
    }

    private static void bestOfEqualOnes() {
        // Either takes way 0 and the other way 1, at one worth: name 0 has the lesser.
        bestIs("two on one place", chart(0, 500, 500, 500, 500), 39500, 0, 1);
        // Here only one can be set, at one worth: left is behind all.
        NameChart one = chart(0, 0, 0, 0, 0);
        bestIs("one of two", one, 18500, 3, NONE);
        // Equal worth of 4 and 8 of the turned one, where either leaves the other name its own way.
        NameChart parts = chart(0, 900, 900, 500, 500, 900, 900, 500, 500);
        bestIs("two parts", parts, 79000, 0, 0, 1, 1);
    }

    private static void bestLargeOrNone() {
        NameChart c = chart(0, 100, 100, 103, 100, 106, 100, 109, 100, 112, 100, 115, 100, 118, 100);
        due("seven", c.count(5), 7);
        due("seven in a part are not large", c.best() > 0 ? 1 : 0, 1);
        c.name(0, 121, 100);
        c.set(7, 2);
        int kept = c.count(3);
        due("eight in a part", c.best(), LARGE);
        due("nothing changes: hand", c.chosen(7), 2);
        due("nothing changes: what is kept", c.count(3), kept);
        due("undo takes back the set", c.undo(), kept - 1);
        due("undone", c.chosen(7), NONE);
        c.name(3, 900, 900);
        c.size(8, 300, 80);
        c.dot(899, 899);
        c.dot(899, 860);
        due("large, whatever else", c.best(), LARGE);

        NameChart m = chart(3, 0, 0);
        m.set(0, 3);
        m.dot(10, 5);
        m.dot(50, 45);
        int held = m.count(3);
        due("a must with no open way", m.best(), NO);
        due("nothing changes: hand", m.chosen(0), 3);
        due("nothing changes: what is kept", m.count(3), held);
    }

    private static void quickIs(String what, NameChart c, int left, int... ways) {
        due(what + ": quick()", c.quick(), left);
        for (int n = 0; n < ways.length; n++) {
            due(what + ": chosen(" + n + ")", c.chosen(n), ways[n]);
        }
    }

    private static void quick() {
        quickIs("nothing", new NameChart(), 0);
        NameChart heap = chart(0, 500, 500, 500, 500, 500, 500, 500, 500, 500, 500);
        quickIs("of one weight by their numbers", heap, 1, 0, 1, 2, 3, NONE);
        heap.weigh(3, 101);
        quickIs("the heaviest first", heap, 1, 1, 2, 3, 0, NONE);
        heap.name(3, 500, 500);
        heap.weigh(5, 1);
        quickIs("a must ahead of all", heap, 2, 2, 3, NONE, 1, NONE, 0);
        heap.name(3, 500, 500);
        heap.weigh(6, 2);
        quickIs("musts among themselves by weight", heap, 3, 3, NONE, NONE, 2, NONE, 1, 0);
        heap.undo();
        due("quick() is one change", heap.chosen(0), 2);

        NameChart turned = turnedWithCornersShut();
        quickIs("way 4 is as cheap as 8", turned, 0, 4);
        turned.dot(590, 500);
        quickIs("way 8 is cheaper than 5", turned, 0, 8);

        // Way 11 is open, but its line goes through the box of way 3.
        NameChart must = chart(3, 0, 0, 0, 0);
        quickIs("a must may be left", must, 1, 3, NONE);
        due("check()", must.check(), 301);

        NameChart old = chart(0, 500, 500, 500, 500);
        old.set(1, 0);
        quickIs("what was in hand does not count", old, 0, 0, 1);
    }

    private static void why() {
        NameChart c = chart(2, 500, 500, 500, 500, 500, 500);
        due("why(0, 0), nothing set", c.why(0, 0), NONE);
        c.set(2, 0);
        due("why(0, 0)", c.why(0, 0), 2);
        due("why(0, 2)", c.why(0, 2), NONE);
        c.set(1, 4);
        due("why(0, 0), the least", c.why(0, 0), 1);
        due("why(0, 8), by its line", c.why(0, 8), 1);
        due("why(1, 0), not left", c.why(1, 0), NO);
        due("why(1, 16), not left", c.why(1, 16), BAD);
        due("why(0, 16)", c.why(0, 16), BAD);
        due("why(0, -1)", c.why(0, -1), BAD);
        due("why(3, 0)", c.why(3, 0), BAD);
        due("why(-1, 0)", c.why(-1, 0), BAD);
        c.dot(510, 495);
        due("why(0, 0), a way that is not open", c.why(0, 0), 1);
        c.set(1, 2);
        due("why(0, 8), by its line through the other", c.why(0, 8), 2);
    }

    private static void slack() {
        NameChart c = chart(0, 500, 500, 500, 500, 900, 900);
        due("slack(), all left", c.slack(), 0);
        c.set(0, 0);
        due("slack(), at price 0", c.slack(), 0);
        c.set(1, 1);
        due("slack(), the cheaper one is taken", c.slack(), 0);
        c.set(1, 2);
        due("slack(), way 1 is cheaper", c.slack(), 1);
        c.set(2, 7);
        due("slack(), two", c.slack(), 2);
        c.set(0, 1);
        due("slack(), 0 and 1 could both have way 0", c.slack(), 3);
        c.dot(510, 495);
        due("slack(), way 0 is not open", c.slack(), 1);

        NameChart t = turnedWithCornersShut();
        t.set(0, 8);
        due("slack(), way 4 has the same price", t.slack(), 0);
        t.set(0, 5);
        due("slack(), 4 and 8 are cheaper", t.slack(), 1);
        t.dot(590, 500);
        due("slack(), 8 is cheaper", t.slack(), 1);
    }

    private static void steadyIs(String what, NameChart c, int n, int zoom, int way) {
        due(what + ": steady(" + n + ", 0)", c.steady(n, 0), zoom);
        due(what + ": steady(" + n + ", 1)", c.steady(n, 1), way);
    }

    private static void steady() {
        NameChart c = chart(0, 500, 500);
        steadyIs("one", c, 0, 0, 0);
        c.move(0, 0, 0);
        steadyIs("a corner", c, 0, 0, 3);
        c.move(0, 10, 10);
        steadyIs("way 0 fits from zoom 0 on", c, 0, 0, 0);
        c.move(0, 5, 5);
        // Way 0 would be open from zoom 1 on, but zoom 0 comes first: way 3.
        steadyIs("the zoom comes ahead of the way", c, 0, 0, 3);

        NameChart d = chart(0, 500, 500);
        d.dot(510, 495);
        steadyIs("a dot in way 0 at zoom 0", d, 0, 0, 1);
        NameChart gap = chart(0, 500, 500);
        gap.dot(501, 499);
        // At zoom 0 and 1 the dot is at most 2 off, at zooms 2 and 3 inside of way 0, then out of it again.
        due("open at zoom 1", gap.way(0, 0, 1, 5), 1);
        due("not open at zoom 2", gap.way(0, 0, 2, 5), 0);
        steadyIs("open at all later zooms", gap, 0, 0, 1);

        NameChart heap = chart(0, 500, 500, 500, 500, 500, 500, 500, 500, 500, 500);
        steadyIs("four have room", heap, 3, 0, 3);
        steadyIs("the fifth is left", heap, 4, NONE, NONE);
        heap.weigh(4, 500);
        steadyIs("the heaviest first", heap, 4, 0, 0);
        steadyIs("and the last is left", heap, 3, NONE, NONE);
        heap.name(3, 500, 500);
        heap.weigh(5, 1);
        steadyIs("musts ahead of all", heap, 5, 0, 0);

        NameChart row = chart(0, 500, 500, 505, 500, 510, 500, 515, 500, 520, 500);
        steadyIs("name 0", row, 0, 0, 0);
        steadyIs("name 1", row, 1, 0, 2);
        steadyIs("name 2", row, 2, 0, 3);
        steadyIs("name 3", row, 3, 1, 0);
        row.set(0, 7);
        steadyIs("what is in hand does not count", row, 0, 0, 0);
        int[][] bad = {{0, -1}, {0, 2}, {5, 0}, {-1, 0}, {LOW, HIGH}};
        for (int[] b : bad) {
            due("steady(" + b[0] + ", " + b[1] + ")", row.steady(b[0], b[1]), BAD);
        }
    }

    private static void there() {
        NameChart c = new NameChart();
        due("there(0) of nothing", c.there(0), 0);
        NameChart heap = chart(0, 500, 500, 500, 500, 500, 500, 500, 500, 500, 500);
        due("there(0)", heap.there(0), 4);
        due("there(6)", heap.there(6), 4);
        heap.move(4, 501, 500);
        due("there(0), the fifth is near", heap.there(0), 4);
        due("there(6), it has come", heap.there(6), 5);
        int zoom = heap.steady(4, 0);
        due("there() ahead of it", heap.there(zoom - 1), 4);
        due("there() with it", heap.there(zoom), 5);
        due("there(-1)", heap.there(-1), BAD);
        due("there(7)", heap.there(7), BAD);
        due("there(HIGH)", heap.there(HIGH), BAD);
    }

    private static void at() {
        NameChart c = chart(0, 500, 500, 500, 500);
        due("at(510, 495), all left", c.at(510, 495), NONE);
        c.set(1, 0);
        due("at(510, 495)", c.at(510, 495), 1);
        c.set(0, 0);
        due("at(510, 495), the least", c.at(510, 495), 0);
        int[][] border = {{502, 495}, {522, 495}, {510, 490}, {510, 498}, {502, 490}, {522, 498}};
        for (int[] b : border) {
            due("at(" + b[0] + ", " + b[1] + "), on the border", c.at(b[0], b[1]), NONE);
        }
        due("at(503, 491)", c.at(503, 491), 0);
        due("at(521, 497)", c.at(521, 497), 0);
        due("at(500, 500), its place", c.at(500, 500), NONE);
        c.move(0, 0, 0);
        c.set(0, 4);
        due("at(5, 0), in a box over the side", c.at(5, 0), 0);
        int[][] bad = {{-1, 0}, {0, -1}, {1001, 0}, {0, 1001}, {LOW, 0}, {0, HIGH}};
        for (int[] b : bad) {
            due("at(" + b[0] + ", " + b[1] + ")", c.at(b[0], b[1]), BAD);
        }
        due("at(0, 0)", c.at(0, 0), NONE);
        due("at(1000, 1000)", c.at(1000, 1000), NONE);
    }

    private static void find() {
        NameChart c = chart(0, 500, 500, 100, 100, 520, 500, 530, 500);
        due("find() of the whole chart, all left", c.find(0, 0, 1000, 1000, 0), NONE);
        c.set(0, 0);
        c.set(1, 0);
        c.set(3, 0);
        due("find(.., 0)", c.find(0, 0, 1000, 1000, 0), 0);
        due("find(.., 1)", c.find(0, 0, 1000, 1000, 1), 1);
        due("find(.., 2)", c.find(0, 0, 1000, 1000, 2), 3);
        due("find(.., 3)", c.find(0, 0, 1000, 1000, 3), NONE);
        due("find(.., HIGH)", c.find(0, 0, 1000, 1000, HIGH), NONE);
        due("a window about 0 and 3: 1", c.find(450, 450, 100, 100, 1), 3);
        // Box 0 is 502 .. 522, 490 .. 498.
        due("a window up to its left", c.find(492, 490, 10, 8, 0), NONE);
        due("a window past its left", c.find(492, 490, 11, 8, 0), 0);
        due("a window from its right on", c.find(522, 490, 10, 8, 0), NONE);
        due("a window from inside", c.find(521, 490, 1, 8, 0), 0);
        due("a window up to its top", c.find(502, 480, 10, 10, 0), NONE);
        due("a window past its top", c.find(502, 480, 10, 11, 0), 0);
        due("a window from its bottom on", c.find(502, 498, 10, 10, 0), NONE);
        due("a window of 1 inside", c.find(510, 495, 1, 1, 0), 0);
        c.set(2, 0);
        due("a window over the chart's side", c.find(1000, 1000, 1000, 1000, 0), NONE);
        int[][] bad = {{-1, 0, 1, 1, 0}, {1001, 0, 1, 1, 0}, {0, -1, 1, 1, 0}, {0, 1001, 1, 1, 0}, {0, 0, 0, 1, 0},
            {0, 0, 1001, 1, 0}, {0, 0, 1, 0, 0}, {0, 0, 1, 1001, 0}, {0, 0, 1, 1, -1}, {0, 0, HIGH, HIGH, LOW}};
        for (int[] b : bad) {
            due("find(" + b[0] + ", " + b[1] + ", " + b[2] + ", " + b[3] + ", " + b[4] + ")",
                c.find(b[0], b[1], b[2], b[3], b[4]), BAD);
        }
    }

    private static void undo() {
        NameChart c = new NameChart();
        due("undo() of nothing", c.undo(), NO);
        c.name(0, 500, 500);
        due("undo()", c.undo(), 0);
        due("count(0)", c.count(0), 0);
        due("undo()", c.undo(), NO);
        for (int i = 0; i < 12; i++) {
            c.name(0, 40 * i, 500);
        }
        for (int kept = 7; kept >= 0; kept--) {
            due("undo()", c.undo(), kept);
        }
        due("undo(), the ninth", c.undo(), NO);
        due("count(0)", c.count(0), 4);
        due("name() after undo", c.name(3, 1, 1), 4);
        due("its kind", c.about(4, 0), 3);
        due("undo()", c.undo(), 0);
        c.set(0, 1);
        c.set(0, 2);
        c.undo();
        c.set(0, 3);
        due("undo(), back over a change after an undo", c.undo(), 1);
        due("chosen(0)", c.chosen(0), 1);
    }

    private static void undoOfEachChange() {
        NameChart c = chart(1, 500, 500, 500, 500);
        c.set(0, 5);
        c.move(0, 7, 9);
        c.undo();
        due("move undone", c.about(0, 1) * 1000 + c.about(0, 2), 500500);
        c.weigh(0, 9);
        c.undo();
        due("weigh undone", c.about(0, 5), 100);
        c.size(0, 9, 10);
        c.undo();
        due("size undone", c.about(0, 3) * 1000 + c.about(0, 4), 20008);
        c.dot(510, 495);
        due("a dot shuts the ways 0, 8 and 12", c.about(0, 7), 13);
        c.undo();
        due("dot undone", c.count(1), 0);
        due("its ways are open again", c.about(0, 7), 16);
        c.free(0);
        c.undo();
        due("free undone", c.chosen(0), 5);
        c.quick();
        c.undo();
        due("quick undone", c.chosen(0), 5);
        due("quick undone", c.chosen(1), NONE);
        c.best();
        c.undo();
        due("best undone", c.chosen(0), 5);
        due("best undone", c.chosen(1), NONE);
        due("parts() before", c.parts(), 1);
        c.move(1, 900, 900);
        due("parts() after", c.parts(), 2);
        c.undo();
        due("parts() undone", c.parts(), 1);
        due("steady before", c.steady(1, 1), 1);
        c.weigh(1, 1000);
        due("steady after", c.steady(1, 1), 0);
        c.undo();
        due("steady undone", c.steady(1, 1), 1);
    }

    private static void refusedCallsChangeNothing() {
        NameChart c = chart(0, 500, 500);
        int kept = c.count(3);
        c.name(4, 0, 0);
        c.dot(-1, 0);
        c.move(0, 0, 1001);
        c.weigh(0, 0);
        c.size(0, 0, 1);
        c.set(0, 8);
        c.free(0);
        c.chosen(0);
        c.check();
        c.about(0, 8);
        c.steady(0, 0);
        due("what is kept after refused calls and questions", c.count(3), kept);
        for (int n = 1; n < 24; n++) {
            c.name(0, 40 * n, 100);
        }
        c.undo();
        c.name(0, 5, 5);
        c.name(0, 6, 6);
        due("a full name() is no change", c.undo(), 7);
        due("the 24th is gone", c.count(0), 23);
    }

    private static void count() {
        NameChart c = chart(3, 500, 500, 510, 500, 900, 900);
        c.name(2, 100, 100);
        c.dot(1, 1);
        c.set(1, 0);
        int[] want = {4, 1, 3, 6, 3, 2};
        for (int what = 0; what < want.length; what++) {
            due("count(" + what + ")", c.count(what), want[what]);
        }
        for (int i = 0; i < 9; i++) {
            c.weigh(0, 100);
        }
        due("count(3), at most 8", c.count(3), 8);
        due("count(-1)", c.count(-1), BAD);
        due("count(6)", c.count(6), BAD);
        due("count(LOW)", c.count(LOW), BAD);
    }

    private static void exampleOfReadme() {
        NameChart chart = new NameChart();
        int a = chart.name(0, 100, 100);
        due("README: a", a, 0);
        int b = chart.name(3, 110, 100);
        due("README: b", b, 1);
        chart.size(a, 30, 8);
        chart.dot(300, 300);
        due("README: worth", chart.best(), 39500);
        int way = chart.chosen(a);
        due("README: way", way, 1);
        due("README: left", chart.way(a, way, 0, 0), 68);
        due("README: kept", chart.undo(), 4);
    }
}
