import java.util.ArrayDeque;
import java.util.ArrayList;
import java.util.Arrays;
import java.util.Deque;
import java.util.List;
import java.util.Random;

/** Runs of random calls on a NameChart and on a plain model of the document; each answer must be the same. */
public final class ReferenceTests {
    private static final int NONE = -1, BAD = -3, NO = -4, FULL = -5, LARGE = -6;

    private static int wrong = 0;
    private static int asked = 0;

    public static void main(String[] args) {
        int runs = args.length > 0 ? Integer.parseInt(args[0]) : 600;
        int firstSeed = args.length > 1 ? Integer.parseInt(args[1]) : 1;
        for (int seed = firstSeed; seed < firstSeed + runs && wrong < 10; seed++) {
            new Run(seed).play();
        }
        System.out.println(asked + " answers, " + wrong + " of them wrong");
        if (wrong != 0) {
            System.exit(1);
        }
    }

    /** One run on a new object. Its seed decides how crowded the chart is, and which calls are frequent. */
    private static final class Run {
        final int seed;
        final Random random;
        final NameChart real = new NameChart();
        final Model model = new Model();
        final int left;
        final int top;
        final int span;
        final int mostNames;
        final int mostWide;
        final int mostHigh;
        final int onlyKind;

        Run(int seed) {
            this.seed = seed;
            random = new Random(seed * 7919L);
            span = new int[] {3, 30, 80, 250, 1000}[random.nextInt(5)];
            int room = 1000 - span;
            left = random.nextInt(3) == 0 ? 0 : random.nextInt(room + 1);
            top = random.nextInt(3) == 0 ? room : random.nextInt(room + 1);
            mostNames = new int[] {4, 6, 9, 24}[random.nextInt(4)];
            mostWide = new int[] {5, 40, 300}[random.nextInt(3)];
            mostHigh = new int[] {5, 20, 80}[random.nextInt(3)];
            onlyKind = random.nextInt(6);
        }

        void play() {
            for (int i = 0; i < 160 && wrong < 10; i++) {
                step(i);
            }
        }

        int between(int least, int most) {
            return least + random.nextInt(most - least + 1);
        }

        /** Now and then a number that is just off, or far off. */
        int number(int least, int most) {
            switch (random.nextInt(40)) {
                case 0: return least - 1;
                case 1: return most + 1;
                case 2: return random.nextBoolean() ? Integer.MIN_VALUE : Integer.MAX_VALUE;
                case 3: return random.nextBoolean() ? least : most;
                default: return between(least, most);
            }
        }

        int aName() {
            int names = Math.max(1, model.now.names.size());
            return number(0, names - 1);
        }

        int aWay() {
            return random.nextInt(3) == 0 ? number(0, 15) : number(0, 7);
        }

        int anX() {
            return random.nextInt(30) == 0 ? number(0, 1000) : between(left, left + span);
        }

        int anY() {
            return random.nextInt(30) == 0 ? number(0, 1000) : between(top, top + span);
        }

        int aKind() {
            return onlyKind < 4 && random.nextInt(10) != 0 ? onlyKind : number(0, 3);
        }

        void step(int at) {
            int[] a = new int[5];
            int call = random.nextInt(NAMES.length + OFTEN.length);
            if (call >= NAMES.length) {
                call = OFTEN[call - NAMES.length];
            }
            if (call == 0 && model.now.names.size() >= mostNames && random.nextInt(12) != 0) {
                call = 2;
            }
            if (call == 1 && random.nextInt(3) != 0) {
                call = 11;
            }
            arguments(call, a);
            int want = onModel(call, a);
            int got = onReal(call, a);
            asked++;
            if (got != want) {
                wrong++;
                System.out.println("run " + seed + ", call " + at + ": " + NAMES[call] + Arrays.toString(a)
                    + " answered " + got + ", due is " + want);
            }
        }

        void arguments(int call, int[] a) {
            switch (call) {
                case 0: a[0] = aKind(); a[1] = anX(); a[2] = anY(); break;
                case 1: a[0] = anX(); a[1] = anY(); break;
                case 2: a[0] = aName(); a[1] = anX(); a[2] = anY(); break;
                case 3: a[0] = aName(); a[1] = random.nextBoolean() ? 100 + random.nextInt(3) : number(1, 1000); break;
                case 4: a[0] = aName(); a[1] = number(1, mostWide); a[2] = number(1, mostHigh); break;
                case 5: a[0] = aName(); a[1] = number(0, 8); break;
                case 6: a[0] = aName(); a[1] = number(0, 3); break;
                case 7: a[0] = aName(); a[1] = aWay(); a[2] = number(0, 6); a[3] = number(0, 5); break;
                case 8: a[0] = aName(); a[1] = aWay(); a[2] = aName(); a[3] = aWay(); a[4] = number(0, 6) / between(1, 4);
                    break;
                case 9: case 11: case 18: a[0] = aName(); a[1] = aWay(); break;
                case 12: case 13: a[0] = aName(); break;
                case 20: a[0] = aName(); a[1] = number(0, 1); break;
                case 21: a[0] = number(0, 6); break;
                case 22: a[0] = anX() + between(-20, 20); a[1] = anY() + between(-20, 20); break;
                case 23: a[0] = anX(); a[1] = anY(); a[2] = number(1, 50); a[3] = number(1, 50); a[4] = number(0, 3); break;
                case 25: a[0] = number(0, 5); break;
                default: break;
            }
        }

        /** Calls that come up more often: name, weigh, size, best, count. */
        static final int[] OFTEN = {0, 0, 0, 0, 3, 4, 16, 25};
        static final String[] NAMES = {"name", "dot", "move", "weigh", "size", "about", "isOf", "way", "clash", "clashes",
            "parts", "set", "free", "chosen", "check", "worth", "best", "quick", "why", "slack", "steady", "there", "at",
            "find", "undo", "count"};

        int onReal(int call, int[] a) {
            switch (call) {
                case 0: return real.name(a[0], a[1], a[2]);
                case 1: return real.dot(a[0], a[1]);
                case 2: return real.move(a[0], a[1], a[2]);
                case 3: return real.weigh(a[0], a[1]);
                case 4: return real.size(a[0], a[1], a[2]);
                case 5: return real.about(a[0], a[1]);
                case 6: return real.isOf(a[0], a[1]);
                case 7: return real.way(a[0], a[1], a[2], a[3]);
                case 8: return real.clash(a[0], a[1], a[2], a[3], a[4]);
                case 9: return real.clashes(a[0], a[1]);
                case 10: return real.parts();
                case 11: return real.set(a[0], a[1]);
                case 12: return real.free(a[0]);
                case 13: return real.chosen(a[0]);
                case 14: return real.check();
                case 15: return real.worth();
                case 16: return real.best();
                case 17: return real.quick();
                case 18: return real.why(a[0], a[1]);
                case 19: return real.slack();
                case 20: return real.steady(a[0], a[1]);
                case 21: return real.there(a[0]);
                case 22: return real.at(a[0], a[1]);
                case 23: return real.find(a[0], a[1], a[2], a[3], a[4]);
                case 24: return real.undo();
                default: return real.count(a[0]);
            }
        }

        int onModel(int call, int[] a) {
            switch (call) {
                case 0: return model.name(a[0], a[1], a[2]);
                case 1: return model.dot(a[0], a[1]);
                case 2: return model.move(a[0], a[1], a[2]);
                case 3: return model.weigh(a[0], a[1]);
                case 4: return model.size(a[0], a[1], a[2]);
                case 5: return model.about(a[0], a[1]);
                case 6: return model.isOf(a[0], a[1]);
                case 7: return model.way(a[0], a[1], a[2], a[3]);
                case 8: return model.clash(a[0], a[1], a[2], a[3], a[4]);
                case 9: return model.clashes(a[0], a[1]);
                case 10: return model.parts().size();
                case 11: return model.set(a[0], a[1]);
                case 12: return model.free(a[0]);
                case 13: return model.has(a[0]) ? model.get(a[0]).hand : BAD;
                case 14: return model.check();
                case 15: return model.worth();
                case 16: return model.best();
                case 17: return model.quick();
                case 18: return model.why(a[0], a[1]);
                case 19: return model.slack();
                case 20: return model.steady(a[0], a[1]);
                case 21: return model.there(a[0]);
                case 22: return model.at(a[0], a[1]);
                case 23: return model.find(a[0], a[1], a[2], a[3], a[4]);
                case 24: return model.undo();
                default: return model.count(a[0]);
            }
        }
    }

    private record Spot(int x, int y) {
    }

    /** A name as it is; a change makes another. */
    private record Name(int kind, int x, int y, int w, int h, int weight, int hand) {
        Name at(int newX, int newY) {
            return new Name(kind, newX, newY, w, h, weight, hand);
        }

        Name ofWeight(int v) {
            return new Name(kind, x, y, w, h, v, hand);
        }

        Name ofSize(int newW, int newH) {
            return new Name(kind, x, y, newW, newH, weight, hand);
        }

        Name by(int way) {
            return new Name(kind, x, y, w, h, weight, way);
        }

        boolean must() {
            return kind == 3;
        }

        int ways() {
            return kind == 0 ? 8 : 16;
        }

        int price(int way) {
            return way < 8 ? 5 * way : kind == 1 ? 5 * (way - 8) + 20 : 5 * (way - 8) + 50;
        }

        int gain(int way) {
            return way == NONE ? 0 : weight * (200 - price(way));
        }

        Place place(int way, int zoom) {
            int px = x * (1 << zoom);
            int py = y * (1 << zoom);
            if (way < 8) {
                return Place.of(px, py, way, w, h, 2, false);
            }
            return kind == 1 ? Place.of(px, py, way - 8, (w + 1) / 2, 2 * h, 2, false)
                : Place.of(px, py, way - 8, w, h, 40, true);
        }
    }

    /** A box with its line; the line's end is doubled. */
    private record Place(int l, int t, int w, int h, boolean line, int x, int y) {
        static Place of(int x, int y, int k, int w, int h, int off, boolean line) {
            switch (k) {
                case 0: return new Place(x + off, y - off - h, w, h, line, x, y);
                case 1: return new Place(x - off - w, y - off - h, w, h, line, x, y);
                case 2: return new Place(x - off - w, y + off, w, h, line, x, y);
                case 3: return new Place(x + off, y + off, w, h, line, x, y);
                case 4: return new Place(x + off, y - h / 2, w, h, line, x, y);
                case 5: return new Place(x - off - w, y - h / 2, w, h, line, x, y);
                case 6: return new Place(x - w / 2, y - off - h, w, h, line, x, y);
                default: return new Place(x - w / 2, y + off, w, h, line, x, y);
            }
        }

        boolean covers(int px, int py) {
            return l < px && px < l + w && t < py && py < t + h;
        }

        boolean shares(int ol, int ot, int ow, int oh) {
            return Math.max(l, ol) < Math.min(l + w, ol + ow) && Math.max(t, ot) < Math.min(t + h, ot + oh);
        }

        boolean clashes(Place o) {
            return shares(o.l, o.t, o.w, o.h) || line && enters(o) || o.line && o.enters(this)
                || line && o.line && crosses(o);
        }

        long endX() {
            return 2L * l + w;
        }

        long endY() {
            return 2L * t + h;
        }

        /** Cuts the line, as a span of times from 0 to 1, by the four sides of the box. */
        boolean enters(Place o) {
            Span span = new Span();
            long dx = endX() - 2L * x;
            long dy = endY() - 2L * y;
            span.above(dx, 2L * o.l - 2L * x);
            span.above(-dx, 2L * x - 2L * (o.l + o.w));
            span.above(dy, 2L * o.t - 2L * y);
            span.above(-dy, 2L * y - 2L * (o.t + o.h));
            return span.some();
        }

        boolean crosses(Place o) {
            long px = 2L * x, py = 2L * y, rx = endX() - px, ry = endY() - py;
            long qx = 2L * o.x, qy = 2L * o.y, sx = o.endX() - qx, sy = o.endY() - qy;
            long d = rx * sy - ry * sx;
            long a = (qx - px) * sy - (qy - py) * sx;
            long b = (qx - px) * ry - (qy - py) * rx;
            if (d != 0) {
                return isPart(a, d) && isPart(b, d);
            }
            if (b != 0) {
                return false;
            }
            long from = (qx - px) * rx + (qy - py) * ry;
            long to = from + sx * rx + sy * ry;
            return Math.max(from, to) >= 0 && Math.min(from, to) <= rx * rx + ry * ry;
        }

        private static boolean isPart(long a, long d) {
            return d > 0 ? 0 <= a && a <= d : d <= a && a <= 0;
        }
    }

    /** The times t of 0 .. 1 for which some k * t > v hold. */
    private static final class Span {
        private boolean never;
        private long lowTop = -1, lowBottom = 1;
        private long highTop = 2, highBottom = 1;

        void above(long k, long v) {
            if (k == 0) {
                never |= v >= 0;
            } else if (k > 0) {
                if (v * lowBottom > lowTop * k) {
                    lowTop = v;
                    lowBottom = k;
                }
            } else if (-v * highBottom < highTop * -k) {
                highTop = -v;
                highBottom = -k;
            }
        }

        boolean some() {
            return !never && lowTop < lowBottom && highTop > 0 && lowTop * highBottom < highTop * lowBottom;
        }
    }

    private record State(List<Name> names, List<Spot> dots) {
        State copy() {
            return new State(new ArrayList<>(names), new ArrayList<>(dots));
        }
    }

    /** The document, in its plainest form: nothing is kept but the names, the dots and the states before. */
    private static final class Model {
        State now = new State(new ArrayList<>(), new ArrayList<>());
        final Deque<State> before = new ArrayDeque<>();

        boolean has(int n) {
            return n >= 0 && n < now.names.size();
        }

        Name get(int n) {
            return now.names.get(n);
        }

        boolean hasWay(int n, int way) {
            return has(n) && way >= 0 && way < get(n).ways();
        }

        static boolean in(int v, int least, int most) {
            return least <= v && v <= most;
        }

        static boolean place(int x, int y) {
            return in(x, 0, 1000) && in(y, 0, 1000);
        }

        void change() {
            before.addLast(now.copy());
            if (before.size() > 8) {
                before.removeFirst();
            }
        }

        int put(int n, Name name, int answer) {
            change();
            now.names.set(n, name);
            return answer;
        }

        int name(int kind, int x, int y) {
            if (!in(kind, 0, 3) || !place(x, y)) {
                return BAD;
            }
            if (now.names.size() == 24) {
                return FULL;
            }
            change();
            now.names.add(new Name(kind, x, y, 20, 8, 100, NONE));
            return now.names.size() - 1;
        }

        int dot(int x, int y) {
            if (!place(x, y)) {
                return BAD;
            }
            if (now.dots.size() == 20) {
                return FULL;
            }
            change();
            now.dots.add(new Spot(x, y));
            return now.dots.size() - 1;
        }

        int move(int n, int x, int y) {
            return has(n) && place(x, y) ? put(n, get(n).at(x, y), 0) : BAD;
        }

        int weigh(int n, int v) {
            return has(n) && in(v, 1, 1000) ? put(n, get(n).ofWeight(v), get(n).weight) : BAD;
        }

        int size(int n, int w, int h) {
            return has(n) && in(w, 1, 300) && in(h, 1, 80) ? put(n, get(n).ofSize(w, h), 0) : BAD;
        }

        int about(int n, int what) {
            if (!has(n) || !in(what, 0, 8)) {
                return BAD;
            }
            Name name = get(n);
            int open = 0;
            for (int way = 0; way < name.ways(); way++) {
                open += open(n, way, 0) ? 1 : 0;
            }
            int part = 0;
            List<List<Integer>> parts = parts();
            while (!parts.get(part).contains(n)) {
                part++;
            }
            return new int[] {name.kind, name.x, name.y, name.w, name.h, name.weight, name.ways(), open, part}[what];
        }

        int isOf(int n, int kind) {
            if (!has(n) || !in(kind, 0, 3)) {
                return BAD;
            }
            String[] kinds = {"0", "01", "02", "023"};
            return kinds[get(n).kind].contains(Integer.toString(kind)) ? 1 : 0;
        }

        int way(int n, int way, int zoom, int what) {
            if (!hasWay(n, way) || !in(zoom, 0, 6) || !in(what, 0, 5)) {
                return BAD;
            }
            Place p = get(n).place(way, zoom);
            return new int[] {p.l, p.t, p.w, p.h, get(n).price(way), open(n, way, zoom) ? 1 : 0}[what];
        }

        boolean open(int n, int way, int zoom) {
            Place p = get(n).place(way, zoom);
            int scale = 1 << zoom;
            boolean open = p.l >= 0 && p.t >= 0 && p.l + p.w <= 1000 * scale && p.t + p.h <= 1000 * scale;
            for (Spot dot : now.dots) {
                open &= !p.covers(dot.x * scale, dot.y * scale);
            }
            for (Name name : now.names) {
                open &= !p.covers(name.x * scale, name.y * scale);
            }
            return open;
        }

        boolean meets(int n, int way, int other, int with, int zoom) {
            return get(n).place(way, zoom).clashes(get(other).place(with, zoom));
        }

        int clash(int n, int way, int other, int with, int zoom) {
            if (!hasWay(n, way) || !hasWay(other, with) || n == other || !in(zoom, 0, 6)) {
                return BAD;
            }
            return meets(n, way, other, with, zoom) ? 1 : 0;
        }

        int clashes(int n, int way) {
            if (!hasWay(n, way)) {
                return BAD;
            }
            int found = 0;
            for (int other = 0; other < now.names.size(); other++) {
                for (int with = 0; with < get(other).ways(); with++) {
                    found += other != n && open(other, with, 0) && meets(n, way, other, with, 0) ? 1 : 0;
                }
            }
            return found;
        }

        boolean neighbours(int n, int other) {
            for (int way = 0; way < get(n).ways(); way++) {
                for (int with = 0; with < get(other).ways(); with++) {
                    if (meets(n, way, other, with, 0) && open(n, way, 0) && open(other, with, 0)) {
                        return true;
                    }
                }
            }
            return false;
        }

        /** Each part grows from its least name, until nobody joins. */
        List<List<Integer>> parts() {
            List<List<Integer>> parts = new ArrayList<>();
            boolean[] seen = new boolean[now.names.size()];
            for (int n = 0; n < seen.length; n++) {
                if (seen[n]) {
                    continue;
                }
                List<Integer> part = new ArrayList<>(List.of(n));
                seen[n] = true;
                for (int i = 0; i < part.size(); i++) {
                    for (int other = 0; other < seen.length; other++) {
                        if (!seen[other] && neighbours(part.get(i), other)) {
                            seen[other] = true;
                            part.add(other);
                        }
                    }
                }
                part.sort(null);
                parts.add(part);
            }
            return parts;
        }

        int set(int n, int way) {
            return hasWay(n, way) ? put(n, get(n).by(way), get(n).hand) : BAD;
        }

        int free(int n) {
            if (!has(n)) {
                return BAD;
            }
            return get(n).hand == NONE ? NO : put(n, get(n).by(NONE), get(n).hand);
        }

        int check() {
            int names = now.names.size();
            for (int n = 0; n < names; n++) {
                if (get(n).hand != NONE && !open(n, get(n).hand, 0)) {
                    return 100 + n;
                }
            }
            for (int n = 0; n < names; n++) {
                if (get(n).hand != NONE && firstMet(n, get(n).hand, hands()) != NONE) {
                    return 200 + n;
                }
            }
            for (int n = 0; n < names; n++) {
                if (get(n).must() && get(n).hand == NONE) {
                    return 300 + n;
                }
            }
            return 0;
        }

        int[] hands() {
            int[] hands = new int[now.names.size()];
            for (int n = 0; n < hands.length; n++) {
                hands[n] = get(n).hand;
            }
            return hands;
        }

        int firstMet(int n, int way, int[] hands) {
            for (int other = 0; other < hands.length; other++) {
                if (other != n && hands[other] != NONE && meets(n, way, other, hands[other], 0)) {
                    return other;
                }
            }
            return NONE;
        }

        int worth() {
            int sum = 0;
            for (Name name : now.names) {
                sum += name.gain(name.hand);
            }
            return sum;
        }

        int takeInHand(int[] setting) {
            change();
            int left = 0;
            for (int n = 0; n < setting.length; n++) {
                now.names.set(n, get(n).by(setting[n]));
                left += setting[n] == NONE ? 1 : 0;
            }
            return left;
        }

        int best() {
            int[] setting = new int[now.names.size()];
            Arrays.fill(setting, NONE);
            List<List<Integer>> parts = parts();
            for (List<Integer> part : parts) {
                if (part.size() > 7) {
                    return LARGE;
                }
            }
            for (List<Integer> part : parts) {
                Trial trial = new Trial(this, part);
                trial.extend(0, 0);
                if (trial.best == null) {
                    return NO;
                }
                for (int i = 0; i < part.size(); i++) {
                    setting[part.get(i)] = trial.best[i];
                }
            }
            takeInHand(setting);
            return worth();
        }

        List<Integer> order() {
            List<Integer> order = new ArrayList<>();
            for (int n = 0; n < now.names.size(); n++) {
                order.add(n);
            }
            order.sort((a, b) -> {
                if (get(a).must() != get(b).must()) {
                    return get(a).must() ? -1 : 1;
                }
                return get(a).weight != get(b).weight ? get(b).weight - get(a).weight : a - b;
            });
            return order;
        }

        int quick() {
            int[] setting = new int[now.names.size()];
            Arrays.fill(setting, NONE);
            for (int n : order()) {
                int found = NONE;
                for (int way = 0; way < get(n).ways(); way++) {
                    boolean fits = open(n, way, 0) && firstMet(n, way, setting) == NONE;
                    if (fits && (found == NONE || get(n).price(way) < get(n).price(found))) {
                        found = way;
                    }
                }
                setting[n] = found;
            }
            return takeInHand(setting);
        }

        int why(int n, int way) {
            if (!hasWay(n, way)) {
                return BAD;
            }
            return get(n).hand != NONE ? NO : firstMet(n, way, hands());
        }

        int slack() {
            int found = 0;
            for (int n = 0; n < now.names.size(); n++) {
                boolean could = false;
                for (int way = 0; way < get(n).ways() && get(n).hand != NONE; way++) {
                    could |= get(n).price(way) < get(n).price(get(n).hand) && open(n, way, 0)
                        && firstMet(n, way, hands()) == NONE;
                }
                found += could ? 1 : 0;
            }
            return found;
        }

        int[][] plan() {
            int[][] plan = new int[now.names.size()][];
            for (int n : order()) {
                plan[n] = new int[] {NONE, NONE};
                for (int zoom = 6; zoom >= 0; zoom--) {
                    for (int way = get(n).ways() - 1; way >= 0; way--) {
                        if (stays(n, way, zoom, plan)) {
                            plan[n] = new int[] {zoom, way};
                        }
                    }
                }
            }
            return plan;
        }

        boolean stays(int n, int way, int from, int[][] plan) {
            for (int zoom = from; zoom <= 6; zoom++) {
                if (!open(n, way, zoom)) {
                    return false;
                }
                for (int other = 0; other < plan.length; other++) {
                    boolean there = other != n && plan[other] != null && plan[other][0] != NONE && plan[other][0] <= zoom;
                    if (there && meets(n, way, other, plan[other][1], zoom)) {
                        return false;
                    }
                }
            }
            return true;
        }

        int steady(int n, int what) {
            return has(n) && in(what, 0, 1) ? plan()[n][what] : BAD;
        }

        int there(int zoom) {
            if (!in(zoom, 0, 6)) {
                return BAD;
            }
            int found = 0;
            for (int[] row : plan()) {
                found += row[0] != NONE && row[0] <= zoom ? 1 : 0;
            }
            return found;
        }

        int at(int x, int y) {
            if (!place(x, y)) {
                return BAD;
            }
            for (int n = 0; n < now.names.size(); n++) {
                if (get(n).hand != NONE && get(n).place(get(n).hand, 0).covers(x, y)) {
                    return n;
                }
            }
            return NONE;
        }

        int find(int x, int y, int w, int h, int i) {
            if (!place(x, y) || !in(w, 1, 1000) || !in(h, 1, 1000) || i < 0) {
                return BAD;
            }
            List<Integer> found = new ArrayList<>();
            for (int n = 0; n < now.names.size(); n++) {
                if (get(n).hand != NONE && get(n).place(get(n).hand, 0).shares(x, y, w, h)) {
                    found.add(n);
                }
            }
            return i < found.size() ? found.get(i) : NONE;
        }

        int undo() {
            if (before.isEmpty()) {
                return NO;
            }
            now = before.removeLast();
            return before.size();
        }

        int count(int what) {
            int left = 0;
            int musts = 0;
            for (Name name : now.names) {
                left += name.hand == NONE ? 1 : 0;
                musts += name.must() ? 1 : 0;
            }
            int most = 0;
            for (List<Integer> part : parts()) {
                most = Math.max(most, part.size());
            }
            return in(what, 0, 5)
                ? new int[] {now.names.size(), now.dots.size(), left, before.size(), musts, most}[what] : BAD;
        }
    }

    /** All right settings of a part in their order, but for those that can't have more worth than the best so far. */
    private static final class Trial {
        final Model model;
        final List<Integer> part;
        final boolean[][] open;
        final boolean[][][][] meet;
        final int[] ways;
        int[] best;
        int most = -1;

        Trial(Model model, List<Integer> part) {
            this.model = model;
            this.part = part;
            ways = new int[part.size()];
            open = new boolean[part.size()][16];
            meet = new boolean[part.size()][16][part.size()][16];
            for (int i = 0; i < part.size(); i++) {
                for (int way = 0; way < name(i).ways(); way++) {
                    open[i][way] = model.open(part.get(i), way, 0);
                    for (int j = 0; j < i; j++) {
                        for (int with = 0; with < name(j).ways(); with++) {
                            meet[i][way][j][with] = model.meets(part.get(i), way, part.get(j), with, 0);
                        }
                    }
                }
            }
        }

        Name name(int i) {
            return model.get(part.get(i));
        }

        void extend(int i, int worth) {
            if (i == part.size()) {
                if (worth > most) {
                    most = worth;
                    best = ways.clone();
                }
                return;
            }
            int rest = 0;
            for (int j = i; j < part.size(); j++) {
                rest += 200 * name(j).weight;
            }
            if (worth + rest <= most) {
                return;
            }
            for (int way = 0; way < name(i).ways(); way++) {
                if (open[i][way] && isFree(i, way)) {
                    ways[i] = way;
                    extend(i + 1, worth + name(i).gain(way));
                }
            }
            if (!name(i).must()) {
                ways[i] = NONE;
                extend(i + 1, worth);
            }
        }

        boolean isFree(int i, int way) {
            for (int j = 0; j < i; j++) {
                if (ways[j] != NONE && meet[i][way][j][ways[j]]) {
                    return false;
                }
            }
            return true;
        }
    }
}
