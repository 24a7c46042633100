import java.lang.management.ManagementFactory;
import java.lang.reflect.Constructor;
import java.lang.reflect.Field;
import java.lang.reflect.Method;
import java.lang.reflect.Modifier;
import java.util.Random;
import java.util.Set;
import java.util.TreeSet;

/** The class's face, wild numbers, and what a run allocates. */
public final class RulesTest {
    private static final Set<String> FACE = Set.of(
        "REFUSED", "NONE", "FULL", "DENIED", "KNOWN", "HELD", "RoomFederation()",
        "send(int,int,int,int,int)", "forge(int,int,int,int,int,int,int)", "deliver(int,int)",
        "sync(int,int)", "state(int,int,int)", "before(int,int,int)", "look(int,int)",
        "level(int,int)", "knows(int,int)", "head(int,int)", "count(int,int)", "events()");
    private static final long MOST_BYTES = 8L * 7_300_000L / 10L;

    public static void main(String[] args) {
        face();
        constants();
        wildNumbersEnd();
        allocation();
        Check.end();
    }

    private static String parameters(Class<?>[] types) {
        StringBuilder text = new StringBuilder();
        for (Class<?> type : types) {
            text.append(text.length() == 0 ? "" : ",").append(type.getName());
        }
        return "(" + text + ")";
    }

    private static void face() {
        Class<?> face = RoomFederation.class;
        TreeSet<String> seen = new TreeSet<>();
        for (Field f : face.getDeclaredFields()) {
            if (!Modifier.isPrivate(f.getModifiers())) {
                seen.add(f.getName());
            }
        }
        for (Constructor<?> c : face.getDeclaredConstructors()) {
            seen.add("RoomFederation" + parameters(c.getParameterTypes()));
        }
        Set<String> publicNames = new TreeSet<>();
        for (Method m : face.getDeclaredMethods()) {
            if (!Modifier.isPrivate(m.getModifiers())) {
                seen.add(m.getName() + parameters(m.getParameterTypes()));
                publicNames.add(m.getName());
            }
        }
        Check.due("the face is " + seen, seen.equals(FACE) ? 1 : 0, 1);
        Check.due("public and final", face.getModifiers() & (Modifier.PUBLIC | Modifier.FINAL),
            Modifier.PUBLIC | Modifier.FINAL);
        Check.due("at most twelve classes", face.getDeclaredClasses().length < 12 ? 1 : 0, 1);
        for (Class<?> c : face.getDeclaredClasses()) {
            Check.due(c + " is static", Modifier.isStatic(c.getModifiers()) ? 1 : 0, 1);
            for (Method m : c.getDeclaredMethods()) {
                Check.due(m + " bears a public name", publicNames.contains(m.getName()) ? 1 : 0, 0);
                Check.due(m + " takes at most seven", m.getParameterCount() <= 7 ? 1 : 0, 1);
            }
        }
    }

    private static void constants() {
        Check.due("REFUSED", RoomFederation.REFUSED, -1);
        Check.due("NONE", RoomFederation.NONE, -2);
        Check.due("FULL", RoomFederation.FULL, -3);
        Check.due("DENIED", RoomFederation.DENIED, -4);
        Check.due("KNOWN", RoomFederation.KNOWN, -5);
        Check.due("HELD", RoomFederation.HELD, -6);
    }

    /** No call throws or fails to end, whatever it is given. */
    private static void wildNumbersEnd() {
        int[] wild = {Integer.MIN_VALUE, -401, -101, -3, -2, -1, 0, 1, 2, 3, 4, 5, 7, 8, 11, 12, 31, 32, 63, 64,
            100, 101, 399, 400, 448, 512, Integer.MAX_VALUE};
        Random random = new Random(5);
        for (int run = 0; run < 20; run++) {
            RoomFederation x = new RoomFederation();
            int[] n = new int[7];
            for (int i = 0; i < 20_000; i++) {
                for (int j = 0; j < n.length; j++) {
                    n[j] = random.nextInt(3) == 0 ? wild[random.nextInt(wild.length)] : random.nextInt(5);
                }
                callAny(x, random.nextInt(11), n);
            }
            Check.due("the room fills up", x.events(), 400);
        }
    }

    private static int callAny(RoomFederation x, int which, int[] n) {
        switch (which) {
            case 0: return x.send(n[0], n[1], n[2], n[3], n[4]);
            case 1: return x.forge(n[0], n[1], n[2], n[3], n[4], n[5], n[6]);
            case 2: return x.deliver(n[0], n[1]);
            case 3: return x.sync(n[0], n[1]);
            case 4: return x.state(n[0], n[1], n[2]);
            case 5: return x.before(n[0], n[1], n[2]);
            case 6: return x.look(n[0], n[1]);
            case 7: return x.level(n[0], n[1]);
            case 8: return x.knows(n[0], n[1]);
            case 9: return x.head(n[0], n[1]);
            default: return x.count(n[0], n[1]);
        }
    }

    /** A run that resolves many states at every call stays far within the room that a run has. */
    private static void allocation() {
        com.sun.management.ThreadMXBean threads =
            (com.sun.management.ThreadMXBean) ManagementFactory.getThreadMXBean();
        branchingRun();
        long before = threads.getThreadAllocatedBytes(Thread.currentThread().getId());
        branchingRun();
        long bytes = threads.getThreadAllocatedBytes(Thread.currentThread().getId()) - before;
        Check.due("bytes of a run, " + bytes + ", are few", bytes < MOST_BYTES ? 1 : 0, 1);
    }

    private static void branchingRun() {
        RoomFederation x = new RoomFederation();
        x.send(0, 0, 0, 0, 0);
        x.send(0, 1, 0, 1, 0);
        int one = 1;
        int two = 1;
        for (int i = 0; i < 200; i++) {
            one = x.forge(0, i % 3 == 0 ? 2 : 4, i % 8, i % 40, i, one, -1);
            two = x.forge(0, i % 3 == 1 ? 2 : 1, i % 8, i % 3, -i, two, i % 9 == 0 ? one : -1);
            x.state(0, 2, 0);
        }
        for (int i = 0; i < 20; i++) {
            x.forge(0, 5, 0, 0, 0, one, two);
        }
    }
}
