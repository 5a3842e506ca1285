import java.util.ArrayList;
import java.util.Arrays;
import java.util.List;

/**
 * Every call that is refused, on charts in many states: it answers what the document asks for, and nothing changes by it,
 * nor by a question; and every change, which is kept and can be taken back.
 */
public final class RefusalTests {
    private static final int NONE = -1, BAD = -3, NO = -4, FULL = -5, LARGE = -6;
    private static final int LOW = Integer.MIN_VALUE, HIGH = Integer.MAX_VALUE;

    /** Each call with a letter for each of its numbers. */
    private static final String[] FACE = {"name KXY", "dot XY", "move NXY", "weigh NV", "size NWH", "about Na", "isOf NK",
        "way NPZb", "clash NPOQZ", "clashes NP", "parts ", "set NP", "free N", "chosen N", "check ", "worth ", "best ",
        "quick ", "why NP", "slack ", "steady Nc", "there Z", "at XY", "find XYUUI", "undo ", "count d"};
    private static final List<String> CHANGES = List.of("name", "dot", "move", "weigh", "size", "set", "free", "best",
        "quick", "undo");

    private static int asked = 0;
    private static int wrong = 0;

    private static void due(String what, boolean right, String told) {
        asked++;
        if (!right) {
            wrong++;
            System.out.println(what + " " + told);
        }
    }

    private static void due(String what, int got, int want) {
        due(what, got == want, "answered " + got + ", due is " + want);
    }

    public static void main(String[] args) {
        for (State state : State.values()) {
            wrongNumbers(state);
            otherRefusals(state);
            questions(state);
            changes(state);
        }
        System.out.println(asked + " answers, " + wrong + " of them wrong");
        if (wrong != 0) {
            System.exit(1);
        }
    }

    /** What a chart has gone through; few enough calls to leave room for looking at it all within 512. */
    private enum State {
        EMPTY, ONE, FEW, MANY_CHANGES, UNDONE, ALL_UNDONE, FULL, FULL_OF_NAMES, FULL_OF_DOTS, LARGE, NO_RIGHT
    }

    private static NameChart chartIn(State state) {
        NameChart c = new NameChart();
        switch (state) {
            case EMPTY: break;
            case ONE: c.name(3, 1000, 0); break;
            case FEW: few(c); break;
            case MANY_CHANGES: few(c); fewMore(c); break;
            case UNDONE: few(c); fewMore(c); c.undo(); c.undo(); c.undo(); break;
            case ALL_UNDONE: few(c); fewMore(c); undoAll(c); break;
            case FULL: fullOfNames(c); fullOfDots(c); c.set(0, 7); c.set(23, 15); break;
            case FULL_OF_NAMES: fullOfNames(c); c.set(22, 0); break;
            case FULL_OF_DOTS: few(c); fullOfDots(c); break;
            case LARGE: eightOfOnePart(c); c.set(7, 2); break;
            default: few(c); noWayForMust(c); break;
        }
        return c;
    }

    private static void few(NameChart c) {
        c.name(0, 500, 500);
        c.name(1, 520, 500);
        c.name(2, 700, 300);
        c.name(3, 100, 100);
        c.set(0, 1);
        c.set(3, 15);
    }

    private static void fewMore(NameChart c) {
        c.dot(710, 295);
        c.weigh(1, 7);
        c.size(2, 31, 9);
        c.move(0, 510, 505);
        c.quick();
        c.free(1);
        c.best();
    }

    private static void undoAll(NameChart c) {
        for (int i = 0; i < 8; i++) {
            c.undo();
        }
    }

    private static void fullOfNames(NameChart c) {
        for (int n = 0; n < 24; n++) {
            c.name(n == 0 ? 0 : n == 23 ? 3 : n % 4, 100 + 130 * (n % 6), 150 + 170 * (n / 6));
        }
    }

    private static void fullOfDots(NameChart c) {
        for (int d = 0; d < 20; d++) {
            c.dot(20 + 45 * d, 500 + d);
        }
    }

    private static void eightOfOnePart(NameChart c) {
        for (int n = 0; n < 8; n++) {
            c.name(0, 400 + 6 * n, 400);
        }
    }

    private static void noWayForMust(NameChart c) {
        c.move(3, 0, 0);
        c.dot(10, 5);
        c.dot(50, 45);
    }

    // ---- what is seen of a chart

    private static int ask(NameChart c, String call, int... a) {
        switch (call) {
            case "name": return c.name(a[0], a[1], a[2]);
            case "dot": return c.dot(a[0], a[1]);
            case "move": return c.move(a[0], a[1], a[2]);
            case "weigh": return c.weigh(a[0], a[1]);
            case "size": return c.size(a[0], a[1], a[2]);
            case "about": return c.about(a[0], a[1]);
            case "isOf": return c.isOf(a[0], a[1]);
            case "way": return c.way(a[0], a[1], a[2], a[3]);
            case "clash": return c.clash(a[0], a[1], a[2], a[3], a[4]);
            case "clashes": return c.clashes(a[0], a[1]);
            case "parts": return c.parts();
            case "set": return c.set(a[0], a[1]);
            case "free": return c.free(a[0]);
            case "chosen": return c.chosen(a[0]);
            case "check": return c.check();
            case "worth": return c.worth();
            case "best": return c.best();
            case "quick": return c.quick();
            case "why": return c.why(a[0], a[1]);
            case "slack": return c.slack();
            case "steady": return c.steady(a[0], a[1]);
            case "there": return c.there(a[0]);
            case "at": return c.at(a[0], a[1]);
            case "find": return c.find(a[0], a[1], a[2], a[3], a[4]);
            case "undo": return c.undo();
            default: return c.count(a[0]);
        }
    }

    private static void addAll(List<Integer> to, int... v) {
        for (int one : v) {
            to.add(one);
        }
    }

    /** All but how many changes are kept. */
    private static List<Integer> look(NameChart c) {
        List<Integer> seen = new ArrayList<>();
        addAll(seen, c.count(0), c.count(1), c.count(2), c.count(4), c.count(5), c.check(), c.worth(), c.parts(), c.slack());
        for (int zoom = 0; zoom <= 6; zoom++) {
            seen.add(c.there(zoom));
        }
        int names = c.count(0);
        for (int n = 0; n < names; n++) {
            for (int what = 0; what <= 8; what++) {
                seen.add(c.about(n, what));
            }
            addAll(seen, c.chosen(n), c.steady(n, 0), c.steady(n, 1));
        }
        return seen;
    }

    /** How a chart goes back, change by change, until none is kept. */
    private static List<Integer> lookBack(NameChart c) {
        List<Integer> seen = new ArrayList<>();
        seen.add(c.count(3));
        int kept = 0;
        for (int i = 0; i <= 8 && kept != NO; i++) {
            kept = c.undo();
            addAll(seen, kept, c.count(0), c.count(1), c.count(2), c.count(5), c.worth(), c.check(), c.there(0));
        }
        return seen;
    }

    private static List<Integer> lookAndLookBack(NameChart c) {
        List<Integer> seen = look(c);
        seen.addAll(lookBack(c));
        return seen;
    }

    // ---- numbers

    private static int[] goodFor(char letter, NameChart c, int name) {
        int last = Math.max(0, c.count(0) - 1);
        switch (letter) {
            case 'K': return new int[] {0, 3};
            case 'X': case 'Y': return new int[] {0, 1000};
            case 'N': return new int[] {name};
            case 'O': return new int[] {name == 0 ? last : 0};
            case 'P': return new int[] {0, c.about(name, 6) - 1};
            case 'Q': return new int[] {0, c.about(name == 0 ? last : 0, 6) - 1};
            case 'V': return new int[] {1, 1000};
            case 'W': return new int[] {1, 300};
            case 'H': return new int[] {1, 80};
            case 'a': return new int[] {0, 8};
            case 'b': case 'd': return new int[] {0, 5};
            case 'c': return new int[] {0, 1};
            case 'Z': return new int[] {0, 6};
            case 'U': return new int[] {1, 1000};
            default: return new int[] {0, HIGH};
        }
    }

    private static int[] badFor(char letter, NameChart c, int name) {
        int[] good = goodFor(letter, c, name);
        int least = good[0];
        int most = good[good.length - 1];
        if (letter == 'N' || letter == 'O') {
            int names = c.count(0);
            // Some of these wrap around to a name that there is, when an index is worked out of them.
            return new int[] {-1, names, names + 1, 24, 1 << 28, 1 << 27, -(1 << 28), LOW, HIGH};
        }
        if (letter == 'I') {
            return new int[] {-1, -2, LOW};
        }
        if (letter == 'Z') {
            return new int[] {-1, 7, 32, 64, -32, LOW, HIGH};
        }
        return new int[] {least - 1, most + 1, least - 2, most + 2, LOW, LOW + 1, HIGH, HIGH - 1};
    }

    private static String text(State state, String call, int[] a) {
        return state + ": " + call + Arrays.toString(a);
    }

    private static void wrongNumbers(State state) {
        List<Integer> before = lookAndLookBack(chartIn(state));
        NameChart plain = chartIn(state);
        int last = Math.max(0, plain.count(0) - 1);
        for (String row : FACE) {
            String call = row.substring(0, row.indexOf(' '));
            String letters = row.substring(row.indexOf(' ') + 1);
            for (int name = 0; name <= last; name += Math.max(1, last)) {
                for (int at = 0; at < letters.length(); at++) {
                    wrongAt(state, call, letters, at, name, before);
                }
            }
        }
    }

    /** One number is wrong and all others are the least, or the greatest, that are allowed. */
    private static void wrongAt(State state, String call, String letters, int at, int name, List<Integer> before) {
        for (int end = 0; end <= 1; end++) {
            int[] a = new int[letters.length()];
            for (int i = 0; i < a.length; i++) {
                int[] good = goodFor(letters.charAt(i), chartIn(state), name);
                a[i] = good[end * (good.length - 1)];
            }
            for (int v : badFor(letters.charAt(at), chartIn(state), name)) {
                a[at] = v;
                refused(state, before, BAD, call, a);
            }
        }
    }

    private static void refused(State state, List<Integer> before, int answer, String call, int... a) {
        NameChart c = chartIn(state);
        due(text(state, call, a), ask(c, call, a), answer);
        due(text(state, call, a), lookAndLookBack(c).equals(before), "changed something");
    }

    // ---- what is refused though its numbers are right

    private static void otherRefusals(State state) {
        List<Integer> before = lookAndLookBack(chartIn(state));
        NameChart plain = chartIn(state);
        int names = plain.count(0);
        int[][] corners = {{0, 0}, {1000, 0}, {0, 1000}, {1000, 1000}, {500, 500}};
        for (int[] at : corners) {
            for (int kind = 0; kind <= 3 && names == 24; kind++) {
                refused(state, before, FULL, "name", kind, at[0], at[1]);
            }
            if (plain.count(1) == 20) {
                refused(state, before, FULL, "dot", at[0], at[1]);
            }
        }
        for (int n = 0; n < names; n++) {
            if (plain.chosen(n) == NONE) {
                refused(state, before, NO, "free", n);
                continue;
            }
            for (int way = 0; way < plain.about(n, 6); way++) {
                refused(state, before, NO, "why", n, way);
            }
            refused(state, before, BAD, "why", n, plain.about(n, 6));
        }
        if (plain.count(3) == 0) {
            refused(state, before, NO, "undo");
        }
        if (state == State.LARGE) {
            refused(state, before, LARGE, "best");
        }
        if (state == State.NO_RIGHT) {
            refused(state, before, NO, "best");
        }
        if (names > 0) {
            refused(state, before, BAD, "clash", 0, 0, 0, 0, 0);
            refused(state, before, BAD, "clash", names - 1, 0, names - 1, 1, 6);
        }
    }

    // ---- questions

    private static void questions(State state) {
        List<Integer> before = lookAndLookBack(chartIn(state));
        int last = Math.max(0, chartIn(state).count(0) - 1);
        for (String row : FACE) {
            String call = row.substring(0, row.indexOf(' '));
            String letters = row.substring(row.indexOf(' ') + 1);
            if (CHANGES.contains(call) || letters.contains("N") && chartIn(state).count(0) == 0) {
                continue;
            }
            for (int end = 0; end <= 1; end++) {
                int[] a = new int[letters.length()];
                for (int i = 0; i < a.length; i++) {
                    int[] good = goodFor(letters.charAt(i), chartIn(state), end * last);
                    a[i] = good[end * (good.length - 1)];
                }
                NameChart c = chartIn(state);
                int first = ask(c, call, a);
                due(text(state, call, a) + " again", ask(c, call, a), first);
                boolean isTold = call.equals("clash") || call.equals("why") || call.equals("way");
                due(text(state, call, a), isTold || first >= NONE, "answered " + first);
                due(text(state, call, a), lookAndLookBack(c).equals(before), "changed something");
            }
        }
    }

    // ---- changes

    private static void changes(State state) {
        NameChart plain = chartIn(state);
        int names = plain.count(0);
        if (names < 24) {
            changed(state, names, "name", 3, 1000, 1000);
        }
        if (plain.count(1) < 20) {
            changed(state, plain.count(1), "dot", 0, 1000);
        }
        if (state != State.LARGE && state != State.NO_RIGHT) {
            changed(state, chartIn(state).best(), "best");
        }
        changed(state, chartIn(state).quick(), "quick");
        for (int n = 0; n < names; n += Math.max(1, names - 1)) {
            int was = plain.chosen(n);
            changed(state, 0, "move", n, 1000, 1000);
            changed(state, 0, "move", n, plain.about(n, 1), plain.about(n, 2));
            changed(state, plain.about(n, 5), "weigh", n, 1000);
            changed(state, plain.about(n, 5), "weigh", n, plain.about(n, 5));
            changed(state, 0, "size", n, 300, 80);
            changed(state, 0, "size", n, plain.about(n, 3), plain.about(n, 4));
            changed(state, was, "set", n, 0);
            changed(state, was, "set", n, plain.about(n, 6) - 1);
            if (was != NONE) {
                changed(state, was, "set", n, was);
                changed(state, was, "free", n);
            }
        }
    }

    /** A change is kept, even one by which all stays as it is; undo brings back what was, and the latest eight only. */
    private static void changed(State state, int answer, String call, int... a) {
        String text = text(state, call, a);
        List<Integer> before = look(chartIn(state));
        NameChart c = chartIn(state);
        int kept = Math.min(8, c.count(3) + 1);
        due(text, ask(c, call, a), answer);
        due(text + ", then count(3)", c.count(3), kept);
        due(text + ", then undo()", c.undo(), kept - 1);
        due(text + ", then undo()", look(c).equals(before), "left something changed");

        NameChart twice = chartIn(state);
        NameChart once = chartIn(state);
        ask(twice, call, a);
        twice.undo();
        for (int left = kept - 2; left >= 0; left--) {
            due(text + ", then undo() again", twice.undo(), left);
            once.undo();
        }
        due(text + ", then all undone", twice.undo(), NO);
        due(text + ", then all undone", look(twice).equals(look(once)), "left something changed");
    }
}
