import java.lang.management.ManagementFactory;
import java.lang.reflect.Field;
import java.lang.reflect.Method;
import java.lang.reflect.Modifier;
import java.util.Arrays;
import java.util.List;
import java.util.Set;
import java.util.TreeSet;

/** The face of the class and what is inside it, as the machine sees them, and that calls make no objects. */
public final class RulesTests {
    private static final List<String> CALLS = List.of("name 3", "dot 2", "move 3", "weigh 2", "size 3", "about 2", "isOf 2",
        "way 4", "clash 5", "clashes 2", "parts 0", "set 2", "free 1", "chosen 1", "check 0", "worth 0", "best 0",
        "quick 0", "why 2", "slack 0", "steady 2", "there 1", "at 2", "find 5", "undo 0", "count 1");
    private static final List<String> CONSTANTS = List.of("NONE", "BAD", "NO", "FULL", "LARGE");

    private static int wrong = 0;

    private static void fault(boolean bad, String what) {
        if (bad) {
            wrong++;
            System.out.println(what);
        }
    }

    public static void main(String[] args) throws Exception {
        theFace();
        theClassesInside();
        noObjectsInCalls();
        System.out.println(wrong == 0 ? "all rules are kept" : wrong + " rules are broken");
        if (wrong != 0) {
            System.exit(1);
        }
    }

    private static void theFace() {
        Class<?> face = NameChart.class;
        fault(face.getModifiers() != (Modifier.PUBLIC | Modifier.FINAL), "the class is not public and final");
        fault(face.getDeclaredConstructors().length != 1 || face.getConstructors().length != 1, "constructors");
        Set<String> open = new TreeSet<>();
        Set<String> hidden = new TreeSet<>();
        for (Method m : face.getDeclaredMethods()) {
            if (Modifier.isPrivate(m.getModifiers())) {
                hidden.add(m.getName());
                continue;
            }
            open.add(m.getName() + " " + m.getParameterCount());
            boolean ints = m.getReturnType() == int.class;
            for (Class<?> type : m.getParameterTypes()) {
                ints &= type == int.class;
            }
            fault(!ints || m.getModifiers() != Modifier.PUBLIC, "the method " + m);
        }
        fault(!open.equals(new TreeSet<>(CALLS)), "the calls are " + open);
        for (String call : CALLS) {
            fault(hidden.contains(call.split(" ")[0]), "a private method bears the name of " + call);
        }
        for (Field f : face.getDeclaredFields()) {
            boolean constant = CONSTANTS.contains(f.getName());
            fault(constant == Modifier.isPrivate(f.getModifiers()), "the field " + f);
            fault(Modifier.isStatic(f.getModifiers()) && !Modifier.isFinal(f.getModifiers()), "the field " + f);
        }
    }

    private static void theClassesInside() {
        Class<?>[] inside = NameChart.class.getDeclaredClasses();
        fault(inside.length > 12, "there are " + inside.length + " classes");
        for (Class<?> c : inside) {
            int m = c.getModifiers();
            fault(!Modifier.isStatic(m) || Modifier.isPublic(m) || Modifier.isProtected(m), "the class " + c);
            int fields = 0;
            for (Field f : c.getDeclaredFields()) {
                fault(Modifier.isStatic(f.getModifiers()) && !Modifier.isFinal(f.getModifiers()), "the field " + f);
                fields += Modifier.isStatic(f.getModifiers()) ? 0 : 1;
            }
            fault(fields > 20, "fields of " + c);
            for (Method method : c.getDeclaredMethods()) {
                fault(method.getParameterCount() > 7, "parameters of " + method);
                fault(CALLS.stream().anyMatch(call -> call.startsWith(method.getName() + " ")), "the name of " + method);
            }
        }
    }

    /** A crowded chart on which every call has something to do. */
    private static int everyCall(NameChart c, int i) {
        int sum = c.name(i % 4, 400 + 7 * i % 50, 400 + 11 * i % 50) + c.dot(400 + i, 390);
        sum += c.move(0, 400 + i % 30, 410) + c.weigh(1, 1 + i) + c.size(2, 1 + i % 300, 1 + i % 80);
        sum += c.about(0, 7) + c.about(0, 8) + c.isOf(0, 2) + c.way(0, 1, 2, 5) + c.clash(0, 1, 1, 2, 0);
        sum += c.clashes(0, 1) + c.parts() + c.set(1, 2) + c.free(1) + c.chosen(0) + c.check() + c.worth();
        sum += c.best() + c.quick() + c.why(0, 1) + c.slack() + c.steady(1, 0) + c.there(3) + c.at(400, 400);
        sum += c.find(300, 300, 300, 300, 1) + c.count(5) + c.undo();
        return sum;
    }

    private static void noObjectsInCalls() {
        com.sun.management.ThreadMXBean bean = (com.sun.management.ThreadMXBean) ManagementFactory.getThreadMXBean();
        long self = Thread.currentThread().getId();
        NameChart[] charts = new NameChart[20];
        long[] used = new long[charts.length];
        for (int k = 0; k < charts.length; k++) {
            charts[k] = new NameChart();
        }
        int sum = 0;
        for (int k = 0; k < charts.length; k++) {
            long before = bean.getThreadAllocatedBytes(self);
            for (int i = 0; i < 18; i++) {
                sum += everyCall(charts[k], i);
            }
            used[k] = bean.getThreadAllocatedBytes(self) - before;
        }
        // The reading itself makes an object or two; 18 rounds of all calls would make far more.
        fault(used[charts.length - 1] > 500, "calls made " + Arrays.toString(used) + " bytes (" + sum + ")");
    }
}
