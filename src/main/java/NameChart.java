import java.util.Arrays;

/** A setter of names on a chart. The document's promises say what each call answers. */
public final class NameChart {
    public static final int NONE = -1, BAD = -3, NO = -4, FULL = -5, LARGE = -6;

    private static final int MOST_NAMES = 24, MOST_DOTS = 20, MOST_KEPT = 8, MOST_IN_PART = 7;
    private static final int SIDE = 1000, MOST_WIDE = 300, MOST_HIGH = 80, MOST_WEIGHT = 1000;
    private static final int NEAR_WAYS = 8, ALL_WAYS = 16, LAST_ZOOM = 6;
    private static final int SPOT = 0, TURNED = 1, LED = 2, MUST = 3;
    private static final int NEAR_OFF = 2, FAR_OFF = 40;

    /** Where a box stands to its point, for the eight directions: 1 behind it, -1 ahead of it, 0 over it. */
    private static final int[] ACROSS = {1, -1, -1, 1, 1, -1, 0, 0};
    private static final int[] DOWN = {-1, -1, 1, 1, 0, 0, -1, 1};
    /** The ways of a turned name by their prices, and the rank of each; those of the other kinds stand so already. */
    private static final int[] TURNED_BY_PRICE = {0, 1, 2, 3, 4, 8, 5, 9, 6, 10, 7, 11, 12, 13, 14, 15};
    private static final int[] TURNED_RANK = {0, 1, 2, 3, 4, 6, 8, 10, 5, 7, 9, 11, 12, 13, 14, 15};

    private final Chart chart;
    private final History history;
    private final Layout layout;
    private final Parts split;
    private final Search search;
    private final Plan plan;
    private final Box box;
    private final Box second;
    private final int[] given;
    private final int[] order;

    public NameChart() {
        chart = new Chart();
        history = new History();
        layout = new Layout();
        split = new Parts();
        search = new Search();
        plan = new Plan();
        box = new Box();
        second = new Box();
        given = new int[MOST_NAMES];
        order = new int[MOST_NAMES];
    }

    public int name(int kind, int x, int y) {
        if (!isKind(kind) || !isPlace(x, y)) {
            return BAD;
        }
        if (chart.names >= MOST_NAMES) {
            return FULL;
        }
        redraw();
        return chart.addName(kind, x, y);
    }

    public int dot(int x, int y) {
        if (!isPlace(x, y)) {
            return BAD;
        }
        if (chart.dots >= MOST_DOTS) {
            return FULL;
        }
        redraw();
        return chart.addDot(x, y);
    }

    public int move(int name, int x, int y) {
        if (!chart.has(name) || !isPlace(x, y)) {
            return BAD;
        }
        redraw();
        chart.x[name] = x;
        chart.y[name] = y;
        return 0;
    }

    public int weigh(int name, int v) {
        if (!chart.has(name) || !within(v, 1, MOST_WEIGHT)) {
            return BAD;
        }
        redraw();
        int was = chart.weight[name];
        chart.weight[name] = v;
        return was;
    }

    public int size(int name, int w, int h) {
        if (!chart.has(name) || !within(w, 1, MOST_WIDE) || !within(h, 1, MOST_HIGH)) {
            return BAD;
        }
        redraw();
        chart.wide[name] = w;
        chart.high[name] = h;
        return 0;
    }

    public int about(int name, int what) {
        if (!chart.has(name)) {
            return BAD;
        }
        switch (what) {
            case 0: return chart.kind[name];
            case 1: return chart.x[name];
            case 2: return chart.y[name];
            case 3: return chart.wide[name];
            case 4: return chart.high[name];
            case 5: return chart.weight[name];
            case 6: return chart.waysOf(name);
            case 7: return openWays(name);
            case 8:
                splitUp();
                return split.of[name];
            default: return BAD;
        }
    }

    public int isOf(int name, int kind) {
        return chart.has(name) && isKind(kind) ? yes(chart.isOfKind(name, kind)) : BAD;
    }

    // ---- ways

    public int way(int name, int way, int zoom, int what) {
        if (!chart.hasWay(name, way) || !isZoom(zoom)) {
            return BAD;
        }
        box.lay(chart, name, way, zoom);
        switch (what) {
            case 0: return box.left;
            case 1: return box.top;
            case 2: return box.right - box.left;
            case 3: return box.bottom - box.top;
            case 4: return chart.priceOf(name, way);
            case 5: return yes(box.isOpen(chart, zoom));
            default: return BAD;
        }
    }

    public int clash(int name, int way, int other, int with, int zoom) {
        if (!chart.hasWay(name, way) || !chart.hasWay(other, with) || name == other || !isZoom(zoom)) {
            return BAD;
        }
        box.lay(chart, name, way, zoom);
        second.lay(chart, other, with, zoom);
        return yes(box.hits(second));
    }

    public int clashes(int name, int way) {
        if (!chart.hasWay(name, way)) {
            return BAD;
        }
        layOut();
        int found = 0;
        for (int other = 0; other < chart.names; other++) {
            if (other != name) {
                found += Integer.bitCount(layout.openHits(name, way, other));
            }
        }
        return found;
    }

    public int parts() {
        splitUp();
        return split.found;
    }

    // ---- settings

    public int set(int name, int way) {
        if (!chart.hasWay(name, way)) {
            return BAD;
        }
        history.keep(chart);
        int was = chart.hand[name];
        chart.hand[name] = way;
        return was;
    }

    public int free(int name) {
        if (!chart.has(name)) {
            return BAD;
        }
        int was = chart.hand[name];
        if (was == NONE) {
            return NO;
        }
        history.keep(chart);
        chart.hand[name] = NONE;
        return was;
    }

    public int chosen(int name) {
        return chart.has(name) ? chart.hand[name] : BAD;
    }

    public int check() {
        layOut();
        int shut = firstShut();
        if (shut != NONE) {
            return 100 + shut;
        }
        int clashing = firstClashing();
        if (clashing != NONE) {
            return 200 + clashing;
        }
        int missing = firstMissing();
        return missing != NONE ? 300 + missing : 0;
    }

    public int worth() {
        int sum = 0;
        for (int n = 0; n < chart.names; n++) {
            sum += chart.hand[n] == NONE ? 0 : chart.gainOf(n, chart.hand[n]);
        }
        return sum;
    }

    public int best() {
        splitUp();
        if (split.greatest > MOST_IN_PART) {
            return LARGE;
        }
        chart.queue(order);
        int sum = 0;
        for (int part = 0; part < split.found; part++) {
            search.seat(chart, layout, split, part, order);
            int most = search.mostWorth();
            if (most == NONE) {
                return NO;
            }
            search.pickFirst(chart, most, given);
            sum += most;
        }
        takeInHand();
        return sum;
    }

    public int quick() {
        layOut();
        chart.queue(order);
        Arrays.fill(given, NONE);
        for (int i = 0; i < chart.names; i++) {
            int n = order[i];
            given[n] = cheapestWay(n, given);
        }
        takeInHand();
        return leftInHand();
    }

    public int why(int name, int way) {
        if (!chart.hasWay(name, way)) {
            return BAD;
        }
        if (chart.hand[name] != NONE) {
            return NO;
        }
        layOut();
        return firstHit(name, way, chart.hand);
    }

    public int slack() {
        layOut();
        int found = 0;
        for (int n = 0; n < chart.names; n++) {
            int now = chart.hand[n];
            int cheapest = now == NONE ? NONE : cheapestWay(n, chart.hand);
            if (cheapest != NONE && chart.priceOf(n, cheapest) < chart.priceOf(n, now)) {
                found++;
            }
        }
        return found;
    }

    // ---- zooms

    public int steady(int name, int what) {
        if (!chart.has(name) || !within(what, 0, 1)) {
            return BAD;
        }
        plan.refresh(chart);
        return what == 0 ? plan.from[name] : plan.by[name];
    }

    public int there(int zoom) {
        if (!isZoom(zoom)) {
            return BAD;
        }
        plan.refresh(chart);
        int found = 0;
        for (int n = 0; n < chart.names; n++) {
            found += yes(plan.isThere(n, zoom));
        }
        return found;
    }

    // ---- places

    public int at(int x, int y) {
        if (!isPlace(x, y)) {
            return BAD;
        }
        layOut();
        for (int n = 0; n < chart.names; n++) {
            if (chart.hand[n] != NONE && layout.boxOf(n, chart.hand[n]).covers(x, y)) {
                return n;
            }
        }
        return NONE;
    }

    public int find(int x, int y, int w, int h, int i) {
        if (!isPlace(x, y) || !within(w, 1, SIDE) || !within(h, 1, SIDE) || i < 0) {
            return BAD;
        }
        layOut();
        int ahead = 0;
        for (int n = 0; n < chart.names; n++) {
            if (chart.hand[n] != NONE && layout.boxOf(n, chart.hand[n]).overlaps(x, y, x + w, y + h)) {
                if (ahead == i) {
                    return n;
                }
                ahead++;
            }
        }
        return NONE;
    }

    public int undo() {
        if (history.held == 0) {
            return NO;
        }
        history.takeBack(chart);
        forgetDrawing();
        return history.held;
    }

    public int count(int what) {
        switch (what) {
            case 0: return chart.names;
            case 1: return chart.dots;
            case 2: return leftInHand();
            case 3: return history.held;
            case 4: return musts();
            case 5:
                splitUp();
                return split.greatest;
            default: return BAD;
        }
    }

    // ---- what the calls share

    private static boolean within(int v, int least, int most) {
        return v >= least && v <= most;
    }

    private static boolean isPlace(int x, int y) {
        return within(x, 0, SIDE) && within(y, 0, SIDE);
    }

    private static boolean isKind(int kind) {
        return within(kind, SPOT, MUST);
    }

    private static boolean isZoom(int zoom) {
        return within(zoom, 0, LAST_ZOOM);
    }

    private static int yes(boolean b) {
        return b ? 1 : 0;
    }

    /** Comes ahead of a change of names or dots: what was worked out from them no longer holds. */
    private void redraw() {
        history.keep(chart);
        forgetDrawing();
    }

    private void forgetDrawing() {
        layout.fresh = false;
        split.fresh = false;
        plan.fresh = false;
    }

    private void layOut() {
        layout.refresh(chart);
    }

    private void splitUp() {
        layOut();
        split.refresh(chart, layout);
    }

    private int openWays(int n) {
        layOut();
        return Integer.bitCount(layout.open[n]);
    }

    private int musts() {
        int found = 0;
        for (int n = 0; n < chart.names; n++) {
            found += yes(chart.kind[n] == MUST);
        }
        return found;
    }

    private int leftInHand() {
        int found = 0;
        for (int n = 0; n < chart.names; n++) {
            found += yes(chart.hand[n] == NONE);
        }
        return found;
    }

    private void takeInHand() {
        history.keep(chart);
        System.arraycopy(given, 0, chart.hand, 0, chart.names);
    }

    private int firstShut() {
        for (int n = 0; n < chart.names; n++) {
            if (chart.hand[n] != NONE && !layout.isOpen(n, chart.hand[n])) {
                return n;
            }
        }
        return NONE;
    }

    private int firstClashing() {
        for (int n = 0; n < chart.names; n++) {
            if (chart.hand[n] != NONE && firstHit(n, chart.hand[n], chart.hand) != NONE) {
                return n;
            }
        }
        return NONE;
    }

    private int firstMissing() {
        for (int n = 0; n < chart.names; n++) {
            if (chart.kind[n] == MUST && chart.hand[n] == NONE) {
                return n;
            }
        }
        return NONE;
    }

    /** The least other name whose way in a setting clashes with this way. */
    private int firstHit(int n, int way, int[] setting) {
        Box own = layout.boxOf(n, way);
        for (int other = 0; other < chart.names; other++) {
            if (other != n && setting[other] != NONE && own.hits(layout.boxOf(other, setting[other]))) {
                return other;
            }
        }
        return NONE;
    }

    /** The first of the cheapest open ways that clash with no other name of a setting. */
    private int cheapestWay(int n, int[] setting) {
        for (int rank = 0; rank < chart.waysOf(n); rank++) {
            int way = chart.wayByPrice(n, rank);
            if (layout.isOpen(n, way) && firstHit(n, way, setting) == NONE) {
                return way;
            }
        }
        return NONE;
    }

    /** All that undo brings back: the names, the dots and the setting in hand. */
    private static final class Chart {
        int names;
        int dots;
        final int[] kind = new int[MOST_NAMES];
        final int[] x = new int[MOST_NAMES];
        final int[] y = new int[MOST_NAMES];
        final int[] wide = new int[MOST_NAMES];
        final int[] high = new int[MOST_NAMES];
        final int[] weight = new int[MOST_NAMES];
        final int[] hand = new int[MOST_NAMES];
        final int[] dotX = new int[MOST_DOTS];
        final int[] dotY = new int[MOST_DOTS];

        void copyFrom(Chart other) {
            names = other.names;
            dots = other.dots;
            System.arraycopy(other.kind, 0, kind, 0, names);
            System.arraycopy(other.x, 0, x, 0, names);
            System.arraycopy(other.y, 0, y, 0, names);
            System.arraycopy(other.wide, 0, wide, 0, names);
            System.arraycopy(other.high, 0, high, 0, names);
            System.arraycopy(other.weight, 0, weight, 0, names);
            System.arraycopy(other.hand, 0, hand, 0, names);
            System.arraycopy(other.dotX, 0, dotX, 0, dots);
            System.arraycopy(other.dotY, 0, dotY, 0, dots);
        }

        int addName(int itsKind, int atX, int atY) {
            kind[names] = itsKind;
            x[names] = atX;
            y[names] = atY;
            wide[names] = 20;
            high[names] = 8;
            weight[names] = 100;
            hand[names] = NONE;
            return names++;
        }

        int addDot(int atX, int atY) {
            dotX[dots] = atX;
            dotY[dots] = atY;
            return dots++;
        }

        boolean has(int n) {
            return n >= 0 && n < names;
        }

        boolean hasWay(int n, int way) {
            return has(n) && way >= 0 && way < waysOf(n);
        }

        int waysOf(int n) {
            return kind[n] == SPOT ? NEAR_WAYS : ALL_WAYS;
        }

        boolean isOfKind(int n, int asked) {
            return asked == SPOT || asked == kind[n] || asked == LED && kind[n] == MUST;
        }

        int priceOf(int n, int way) {
            if (way < NEAR_WAYS) {
                return 5 * way;
            }
            return 5 * (way - NEAR_WAYS) + (kind[n] == TURNED ? 20 : 50);
        }

        int wayByPrice(int n, int rank) {
            return kind[n] == TURNED ? TURNED_BY_PRICE[rank] : rank;
        }

        int rankOf(int n, int way) {
            return kind[n] == TURNED ? TURNED_RANK[way] : way;
        }

        int gainOf(int n, int way) {
            return weight[n] * (200 - priceOf(n, way));
        }

        /** Whether the spaces that any ways of two names can take up have something in common. */
        boolean areNear(int n, int other) {
            return Math.abs(x[n] - x[other]) < reachAcross(n) + reachAcross(other)
                && Math.abs(y[n] - y[other]) < reachDown(n) + reachDown(other);
        }

        private int reachAcross(int n) {
            return wide[n] + (isOfKind(n, LED) ? FAR_OFF : NEAR_OFF);
        }

        private int reachDown(int n) {
            return (kind[n] == TURNED ? 2 * high[n] : high[n]) + (isOfKind(n, LED) ? FAR_OFF : NEAR_OFF);
        }

        /** The names in the order in which the quick setting and the plan of zooms serve them. */
        void queue(int[] order) {
            for (int n = 0; n < names; n++) {
                int to = n;
                while (to > 0 && isServedAhead(n, order[to - 1])) {
                    order[to] = order[to - 1];
                    to--;
                }
                order[to] = n;
            }
        }

        private boolean isServedAhead(int n, int other) {
            boolean must = kind[n] == MUST;
            if (must != (kind[other] == MUST)) {
                return must;
            }
            return weight[n] > weight[other];
        }
    }

    /** The latest charts as they were before a change, in a ring that is used again and again. */
    private static final class History {
        private final Chart[] ring = new Chart[MOST_KEPT];
        private int next;
        int held;

        History() {
            for (int i = 0; i < MOST_KEPT; i++) {
                ring[i] = new Chart();
            }
        }

        void keep(Chart now) {
            ring[next].copyFrom(now);
            next = (next + 1) % MOST_KEPT;
            held = Math.min(held + 1, MOST_KEPT);
        }

        void takeBack(Chart now) {
            next = (next + MOST_KEPT - 1) % MOST_KEPT;
            now.copyFrom(ring[next]);
            held--;
        }
    }

    /** Where a way stands at a zoom. */
    private static final class Box {
        int left;
        int top;
        int right;
        int bottom;
        private boolean led;
        // The line's ends are held doubled, since the middle of a box may lie at a half.
        private int fromX;
        private int fromY;
        private int toX;
        private int toY;

        void lay(Chart chart, int n, int way, int zoom) {
            boolean far = way >= NEAR_WAYS;
            boolean turned = far && chart.kind[n] == TURNED;
            led = far && !turned;
            int w = turned ? (chart.wide[n] + 1) / 2 : chart.wide[n];
            int h = turned ? 2 * chart.high[n] : chart.high[n];
            int off = led ? FAR_OFF : NEAR_OFF;
            int direction = far ? way - NEAR_WAYS : way;
            int x = chart.x[n] << zoom;
            int y = chart.y[n] << zoom;
            left = start(x, ACROSS[direction], w, off);
            top = start(y, DOWN[direction], h, off);
            right = left + w;
            bottom = top + h;
            fromX = 2 * x;
            fromY = 2 * y;
            toX = left + right;
            toY = top + bottom;
        }

        private static int start(int from, int toward, int length, int off) {
            if (toward == 0) {
                return from - length / 2;
            }
            return toward > 0 ? from + off : from - off - length;
        }

        boolean covers(int x, int y) {
            return left < x && x < right && top < y && y < bottom;
        }

        boolean overlaps(int itsLeft, int itsTop, int itsRight, int itsBottom) {
            return left < itsRight && itsLeft < right && top < itsBottom && itsTop < bottom;
        }

        boolean isOpen(Chart chart, int zoom) {
            int side = SIDE << zoom;
            if (left < 0 || top < 0 || right > side || bottom > side) {
                return false;
            }
            return !coversAny(chart.dotX, chart.dotY, chart.dots, zoom)
                && !coversAny(chart.x, chart.y, chart.names, zoom);
        }

        private boolean coversAny(int[] x, int[] y, int many, int zoom) {
            for (int i = 0; i < many; i++) {
                if (covers(x[i] << zoom, y[i] << zoom)) {
                    return true;
                }
            }
            return false;
        }

        boolean hits(Box other) {
            if (overlaps(other.left, other.top, other.right, other.bottom)) {
                return true;
            }
            if (led && lineEnters(other) || other.led && other.lineEnters(this)) {
                return true;
            }
            return led && other.led && linesMeet(other);
        }

        /** A line is apart from the inside of a box, if an axis or the line itself has the box all on one side. */
        private boolean lineEnters(Box other) {
            int l = 2 * other.left;
            int t = 2 * other.top;
            int r = 2 * other.right;
            int b = 2 * other.bottom;
            if (Math.max(fromX, toX) <= l || Math.min(fromX, toX) >= r) {
                return false;
            }
            if (Math.max(fromY, toY) <= t || Math.min(fromY, toY) >= b) {
                return false;
            }
            int one = sideOf(l, t);
            int two = sideOf(r, t);
            int three = sideOf(r, b);
            int four = sideOf(l, b);
            boolean someBelow = one < 0 || two < 0 || three < 0 || four < 0;
            boolean someAbove = one > 0 || two > 0 || three > 0 || four > 0;
            return someBelow && someAbove;
        }

        /** Two lines that lie on one straight line are on no side of each other, so their spans are compared first. */
        private boolean linesMeet(Box other) {
            if (Math.max(fromX, toX) < Math.min(other.fromX, other.toX)
                || Math.max(other.fromX, other.toX) < Math.min(fromX, toX)) {
                return false;
            }
            if (Math.max(fromY, toY) < Math.min(other.fromY, other.toY)
                || Math.max(other.fromY, other.toY) < Math.min(fromY, toY)) {
                return false;
            }
            int one = sideOf(other.fromX, other.fromY);
            int two = sideOf(other.toX, other.toY);
            int three = other.sideOf(fromX, fromY);
            int four = other.sideOf(toX, toY);
            boolean otherAside = one < 0 && two < 0 || one > 0 && two > 0;
            boolean thisAside = three < 0 && four < 0 || three > 0 && four > 0;
            return !otherAside && !thisAside;
        }

        /** Below 0, 0 or above 0: the side of the line on which a (doubled) place lies. */
        private int sideOf(int x, int y) {
            return (toX - fromX) * (y - fromY) - (toY - fromY) * (x - fromX);
        }
    }

    /** Where all ways stand on the chart as it is drawn, and which of them are open. */
    private static final class Layout {
        private final Box[] boxes = new Box[MOST_NAMES * ALL_WAYS];
        /** A bit for each way. */
        final int[] open = new int[MOST_NAMES];
        boolean fresh;

        Layout() {
            for (int i = 0; i < boxes.length; i++) {
                boxes[i] = new Box();
            }
        }

        void refresh(Chart chart) {
            if (fresh) {
                return;
            }
            fresh = true;
            for (int n = 0; n < chart.names; n++) {
                open[n] = 0;
                for (int way = 0; way < chart.waysOf(n); way++) {
                    Box box = boxOf(n, way);
                    box.lay(chart, n, way, 0);
                    open[n] |= box.isOpen(chart, 0) ? 1 << way : 0;
                }
            }
        }

        Box boxOf(int n, int way) {
            return boxes[n * ALL_WAYS + way];
        }

        boolean isOpen(int n, int way) {
            return (open[n] >> way & 1) == 1;
        }

        /** The open ways of another name with which a way clashes. */
        int openHits(int n, int way, int other) {
            Box box = boxOf(n, way);
            int hit = 0;
            for (int with = 0; with < ALL_WAYS; with++) {
                if (isOpen(other, with) && box.hits(boxOf(other, with))) {
                    hit |= 1 << with;
                }
            }
            return hit;
        }

        boolean openWaysClash(int n, int other) {
            for (int way = 0; way < ALL_WAYS; way++) {
                for (int with = 0; with < ALL_WAYS && isOpen(n, way); with++) {
                    if (isOpen(other, with) && boxOf(n, way).hits(boxOf(other, with))) {
                        return true;
                    }
                }
            }
            return false;
        }
    }

    /** The names that belong together because open ways of theirs clash. */
    private static final class Parts {
        final int[] of = new int[MOST_NAMES];
        private final int[] members = new int[MOST_NAMES];
        int found;
        int greatest;
        boolean fresh;

        void refresh(Chart chart, Layout layout) {
            if (fresh) {
                return;
            }
            fresh = true;
            for (int n = 0; n < chart.names; n++) {
                of[n] = n;
                joinBack(chart, layout, n);
            }
            giveNumbers(chart.names);
        }

        private void joinBack(Chart chart, Layout layout, int n) {
            for (int other = 0; other < n; other++) {
                if (of[n] != of[other] && chart.areNear(n, other) && layout.openWaysClash(n, other)) {
                    join(Math.min(of[n], of[other]), Math.max(of[n], of[other]), n);
                }
            }
        }

        private void join(int lesser, int greater, int last) {
            for (int n = 0; n <= last; n++) {
                if (of[n] == greater) {
                    of[n] = lesser;
                }
            }
        }

        /** Till here a part bears its least name, which has its number already when a later one asks. */
        private void giveNumbers(int names) {
            found = 0;
            greatest = 0;
            for (int n = 0; n < names; n++) {
                if (of[n] == n) {
                    members[found] = 0;
                    of[n] = found;
                    found++;
                } else {
                    of[n] = of[of[n]];
                }
                members[of[n]]++;
                greatest = Math.max(greatest, members[of[n]]);
            }
        }
    }

    /** The best setting of one part. Its members sit in the order of the quick setting, the heavy ones first. */
    private static final class Search {
        /** What a member can be given: its ways by their prices upward, and behind them to be left. */
        private static final int OPTIONS = ALL_WAYS + 1;
        /** What can still be taken has 16 bits a member, and so four members in a long. */
        private static final int IN_FRONT = 4, ALL_BITS = 0xFFFF;
        /** Below and above every worth. */
        private static final int HOPELESS = -1000000000, ENDLESS = 1000000000;

        private final int[] member = new int[MOST_IN_PART];
        private final boolean[] must = new boolean[MOST_IN_PART];
        private final int[] gain = new int[MOST_IN_PART * OPTIONS];
        /** For an option of a member: what can't be taken along with it, the member's own bits among that. */
        private final long[] banFront = new long[MOST_IN_PART * OPTIONS];
        private final long[] banBack = new long[MOST_IN_PART * OPTIONS];
        private int members;
        private long openFront;
        private long openBack;
        private int most;
        private int goal;

        void seat(Chart chart, Layout layout, Parts parts, int part, int[] order) {
            members = 0;
            for (int i = 0; i < chart.names; i++) {
                int n = order[i];
                if (parts.of[n] == part && members < MOST_IN_PART) {
                    member[members] = n;
                    must[members] = chart.kind[n] == MUST;
                    members++;
                }
            }
            openFront = 0;
            openBack = 0;
            for (int i = 0; i < members; i++) {
                gatherOptions(chart, layout, i);
            }
        }

        /** NONE, if there is no right setting. */
        int mostWorth() {
            most = NONE;
            goal = ENDLESS;
            descend(0, openFront, openBack, 0);
            return most;
        }

        /** Settles name after name for its least way with which the part can still have the worth. */
        void pickFirst(Chart chart, int worth, int[] setting) {
            for (int n = 0; n < chart.names; n++) {
                for (int i = 0; i < members; i++) {
                    if (member[i] == n) {
                        setting[n] = firstReaching(chart, i, worth);
                    }
                }
            }
        }

        private int firstReaching(Chart chart, int i, int worth) {
            int usable = bitsOf(i, openFront, openBack);
            for (int way = 0; way < ALL_WAYS; way++) {
                int rank = chart.rankOf(member[i], way);
                if ((usable >> rank & 1) == 1 && fixIfReaching(i, rank, worth)) {
                    return way;
                }
            }
            openFront &= ~inFront(i, ALL_BITS);
            openBack &= ~inBack(i, ALL_BITS);
            return NONE;
        }

        /** If so, the member keeps this option alone, and the others lose what it bans. */
        private boolean fixIfReaching(int i, int rank, int worth) {
            int at = i * OPTIONS + rank;
            long front = openFront & ~banFront[at] | inFront(i, 1 << rank);
            long back = openBack & ~banBack[at] | inBack(i, 1 << rank);
            most = worth - 1;
            goal = worth;
            descend(0, front, back, 0);
            if (most < worth) {
                return false;
            }
            openFront = front;
            openBack = back;
            return true;
        }

        private void gatherOptions(Chart chart, Layout layout, int i) {
            int n = member[i];
            int open = byRank(chart, n, layout.open[n]);
            openFront |= inFront(i, open);
            openBack |= inBack(i, open);
            for (int rank = 0; rank < OPTIONS; rank++) {
                int at = i * OPTIONS + rank;
                gain[at] = 0;
                banFront[at] = inFront(i, ALL_BITS);
                banBack[at] = inBack(i, ALL_BITS);
                if ((open >> rank & 1) == 1) {
                    int way = chart.wayByPrice(n, rank);
                    gain[at] = chart.gainOf(n, way);
                    gatherBans(chart, layout, i, way, at);
                }
            }
        }

        private void gatherBans(Chart chart, Layout layout, int i, int way, int at) {
            for (int j = 0; j < members; j++) {
                if (j != i && chart.areNear(member[i], member[j])) {
                    int hit = byRank(chart, member[j], layout.openHits(member[i], way, member[j]));
                    banFront[at] |= inFront(j, hit);
                    banBack[at] |= inBack(j, hit);
                }
            }
        }

        private static int byRank(Chart chart, int n, int ways) {
            int ranks = 0;
            for (int way = 0; way < ALL_WAYS; way++) {
                ranks |= (ways >> way & 1) << chart.rankOf(n, way);
            }
            return ranks;
        }

        private static long inFront(int i, int bits) {
            return i < IN_FRONT ? (long) bits << ALL_WAYS * i : 0;
        }

        private static long inBack(int i, int bits) {
            return i < IN_FRONT ? 0 : (long) bits << ALL_WAYS * (i - IN_FRONT);
        }

        private static int bitsOf(int i, long front, long back) {
            long at = i < IN_FRONT ? front >>> ALL_WAYS * i : back >>> ALL_WAYS * (i - IN_FRONT);
            return (int) at & ALL_BITS;
        }

        /** Raises the most worth by what the members from this one on can add; the depth ends at the members. */
        private void descend(int i, long front, long back, int soFar) {
            if (i >= members) {
                most = Math.max(most, soFar);
                return;
            }
            if (soFar + hope(i, front, back) <= most) {
                return;
            }
            int usable = bitsOf(i, front, back) | (must[i] ? 0 : 1 << ALL_WAYS);
            for (int rank = 0; rank < OPTIONS && most < goal; rank++) {
                int at = i * OPTIONS + rank;
                if ((usable >> rank & 1) == 1 && !isBeaten(i, rank, usable, front, back)) {
                    descend(i + 1, front & ~banFront[at], back & ~banBack[at], soFar + gain[at]);
                }
            }
        }

        /** A worth that the members from this one on can't exceed: each takes its cheapest way. */
        private int hope(int from, long front, long back) {
            int sum = 0;
            for (int i = from; i < members; i++) {
                int usable = bitsOf(i, front, back);
                if (usable != 0) {
                    sum += gain[i * OPTIONS + Integer.numberOfTrailingZeros(usable)];
                } else if (must[i]) {
                    return HOPELESS;
                }
            }
            return sum;
        }

        /** An option is not worth a try, if a cheaper one leaves the others all that it leaves them. */
        private boolean isBeaten(int i, int rank, int usable, long front, long back) {
            int at = i * OPTIONS + rank;
            for (int cheaper = i * OPTIONS; cheaper < at; cheaper++) {
                boolean canHave = (usable >> cheaper - i * OPTIONS & 1) == 1;
                if (canHave && (banFront[cheaper] & ~banFront[at] & front) == 0
                    && (banBack[cheaper] & ~banBack[at] & back) == 0) {
                    return true;
                }
            }
            return false;
        }
    }

    /** From which zoom on each name stays, and by which way. */
    private static final class Plan {
        final int[] from = new int[MOST_NAMES];
        final int[] by = new int[MOST_NAMES];
        private final int[] order = new int[MOST_NAMES];
        private final Box box = new Box();
        private final Box second = new Box();
        boolean fresh;

        void refresh(Chart chart) {
            if (fresh) {
                return;
            }
            fresh = true;
            Arrays.fill(from, NONE);
            Arrays.fill(by, NONE);
            chart.queue(order);
            for (int i = 0; i < chart.names; i++) {
                settle(chart, order[i]);
            }
        }

        boolean isThere(int n, int zoom) {
            return from[n] != NONE && from[n] <= zoom;
        }

        /** A way has to fit at all later zooms, so each is followed down from the last. */
        private void settle(Chart chart, int n) {
            int least = LAST_ZOOM + 1;
            int found = NONE;
            for (int way = 0; way < chart.waysOf(n) && least > 0; way++) {
                int zoom = LAST_ZOOM + 1;
                while (zoom > 0 && fits(chart, n, way, zoom - 1)) {
                    zoom--;
                }
                if (zoom < least) {
                    least = zoom;
                    found = way;
                }
            }
            if (found != NONE) {
                from[n] = least;
                by[n] = found;
            }
        }

        private boolean fits(Chart chart, int n, int way, int zoom) {
            box.lay(chart, n, way, zoom);
            if (!box.isOpen(chart, zoom)) {
                return false;
            }
            for (int other = 0; other < chart.names; other++) {
                if (isThere(other, zoom)) {
                    second.lay(chart, other, by[other], zoom);
                    if (box.hits(second)) {
                        return false;
                    }
                }
            }
            return true;
        }
    }
}
