import java.lang.management.ManagementFactory;
import java.lang.reflect.InvocationTargetException;
import java.lang.reflect.Method;
import java.util.Arrays;
import java.util.Comparator;
import java.util.List;
import java.util.NoSuchElementException;
import java.util.Random;

/**
 * The machine itself never throws, whatever the arguments; only the five methods that may refuse by an exception do.
 * Questions make no objects, and the dearest of them come to an end soon.
 */
public final class MachineTest {
    private static final List<String> MAY_THROW = List.of("verdict", "fact", "marks", "money", "sets");
    private static final Checks checks = new Checks("MachineTest");

    public static void main(String[] args) throws Exception {
        extremes();
        frugality();
        room();
        dearest();
        checks.end();
    }

    // ---- any arguments

    private static void extremes() throws Exception {
        Method[] methods = Arrays.stream(VillageShow.class.getDeclaredMethods())
            .filter(m -> java.lang.reflect.Modifier.isPublic(m.getModifiers()))
            .sorted(Comparator.comparing(Method::getName)).toArray(Method[]::new);
        Random random = new Random(7);
        for (int run = 0; run < 600; run++) {
            VillageShow show = run % 2 == 0 ? new VillageShow() : fullShow(random);
            for (int call = 0; call < 700; call++) {
                Method method = methods[random.nextInt(methods.length)];
                if (method.getName().equals("can") && run % 2 == 1 && random.nextInt(10) > 0) {
                    continue;
                }
                ask(show, method, random, true);
            }
        }
    }

    /** Wild arguments are mostly refused; tame ones, 0 to 2, are mostly answered. */
    private static void ask(VillageShow show, Method method, Random random, boolean wild) throws Exception {
        Class<?>[] types = method.getParameterTypes();
        Object[] arguments = new Object[types.length];
        for (int i = 0; i < types.length; i++) {
            arguments[i] = types[i] == boolean.class ? (Object) random.nextBoolean()
                : types[i] == long.class ? (Object) aLong(random)
                : (Object) (wild ? anInt(random) : random.nextInt(3));
        }
        try {
            method.invoke(show, arguments);
        } catch (InvocationTargetException e) {
            Throwable thrown = e.getCause();
            if (thrown.getClass() != NoSuchElementException.class || !MAY_THROW.contains(method.getName())) {
                thrown.printStackTrace(System.out);
                checks.due(method.getName() + Arrays.toString(arguments) + " threw", 1, 0);
            }
        }
    }

    private static int anInt(Random random) {
        int[] odd = {Integer.MIN_VALUE, Integer.MAX_VALUE, -2, 10, 11, 40, 64, 65, 99, 100, 1000, Integer.MIN_VALUE + 1};
        int dice = random.nextInt(10);
        return dice == 0 ? odd[random.nextInt(odd.length)] : dice < 3 ? random.nextInt(41) : random.nextInt(12) - 1;
    }

    private static long aLong(Random random) {
        String[] texts = {"want 1 kin", "d 1;", "marks ", "age*grade", ";bar 1 w", "hen 2<age", ";", "((((((", "not not ",
            "drop when", " now;", "join when", "kind = 10;", "tie 9999*9999*9999;", "   \n", "99999"};
        int dice = random.nextInt(4);
        return dice == 0 ? random.nextLong() : dice == 1 ? 1L << random.nextInt(64)
            : dice == 2 ? random.nextInt(256) : Checks.pack(texts[random.nextInt(texts.length)], 0);
    }

    /** All that can be told is told: ten classes, 40 entries, six bars each. */
    private static VillageShow fullShow(Random random) {
        VillageShow show = new VillageShow();
        for (int who = 0; who < 10; who++) {
            show.exhibitor(who, random.nextInt(6), 1 + random.nextInt(99), random.nextInt(4) == 0);
        }
        for (int piece = 0; piece < 40; piece++) {
            show.piece(piece, piece % 10, random.nextInt(10), 1 + random.nextInt(99), random.nextInt(10));
        }
        for (int kind = 0; kind < 10; kind++) {
            Checks.schedule(show, kind, "marks (grade*3-spread)*(age+1);tie size-entries;"
                + "bar 1 when 95<size and won;".repeat(6));
        }
        Checks.book(show, "bar 2 when age=99 or house=7;".repeat(6));
        for (int judge = 0; judge < 4; judge++) {
            show.judge(judge, random.nextInt(6));
        }
        for (int entry = 0; entry < 40; entry++) {
            show.entry(random.nextInt(10), entry % 10, 1L << entry, random.nextInt(10));
        }
        for (int kind = 0; kind < 10; kind++) {
            show.judged(kind, random.nextInt(4));
            show.lay(kind, random.nextInt(3), random.nextInt(10));
        }
        return show;
    }

    // ---- objects

    private static void frugality() {
        com.sun.management.ThreadMXBean counter =
            (com.sun.management.ThreadMXBean) ManagementFactory.getThreadMXBean();
        VillageShow show = fullShow(new Random(3));
        long me = Thread.currentThread().getId();
        long sum = 0;
        for (int turn = 0; turn < 3; turn++) {
            long before = counter.getThreadAllocatedBytes(me);
            for (int i = 0; i < 100; i++) {
                sum += show.cup() + show.can(i % 10) + show.protest(i % 40, i % 2) + show.money(i % 10)
                    + show.moves(false, 0) + show.round(0) + show.span(i % 40, 0) + show.place(i % 40, 0)
                    + show.sets(i % 10, 0, 1, 0) + show.points(true, i % 6) + show.planned(i % 10, 1)
                    + show.clash(i % 10, 0) + show.count(5) + (show.mark(i % 4, false) ? 1 : 0)
                    + (show.mark(i % 4, true) ? 1 : 0);
            }
            long made = counter.getThreadAllocatedBytes(me) - before;
            checks.yes("1,500 questions made " + made + " bytes of objects", made < 20000);
        }
        checks.yes("a sum", sum != Long.MIN_VALUE);
        long before = counter.getThreadAllocatedBytes(me);
        new VillageShow();
        long made = counter.getThreadAllocatedBytes(me) - before;
        checks.yes("an object has " + made + " bytes", made < 40000);
    }

    // ---- room

    /**
     * LANGUAGE.md and rule 12: some 600,000 objects and 7.3 million elements for all calls of a run. So many bytes hold
     * less than that of either, as an object has 16 bytes at least and an element one.
     */
    private static final long ROOM = 7300000;

    private static void room() throws Exception {
        com.sun.management.ThreadMXBean counter =
            (com.sun.management.ThreadMXBean) ManagementFactory.getThreadMXBean();
        long me = Thread.currentThread().getId();
        for (Method method : VillageShow.class.getDeclaredMethods()) {
            if (!java.lang.reflect.Modifier.isPublic(method.getModifiers())) {
                continue;
            }
            Random random = new Random(11);
            VillageShow show = fullShow(random);
            ask(show, method, random, false);
            long before = counter.getThreadAllocatedBytes(me);
            for (int call = 0; call < 512; call++) {
                ask(show, method, random, false);
            }
            long made = counter.getThreadAllocatedBytes(me) - before;
            checks.yes("512 calls of " + method.getName() + " made " + made + " bytes", made < ROOM);
        }
        VillageShow show = new VillageShow();
        long before = counter.getThreadAllocatedBytes(me);
        for (int call = 0; call < 512; call++) {
            if (call % 43 < 42) {
                show.feed(0x2020202020202020L, 0x2020202020202020L, 0x2020202020202020L);
            } else {
                checks.due("a full tape is read", show.schedule(call % 10), 0);
            }
        }
        long made = counter.getThreadAllocatedBytes(me) - before;
        checks.yes("512 calls that fill the tape and read it made " + made + " bytes", made < ROOM);
    }

    // ---- time

    private static void dearest() {
        long start = System.nanoTime();
        dearCan();
        dearMoves();
        dearRounds();
        dearSets();
        long spent = (System.nanoTime() - start) / 1000000;
        checks.yes("the dearest questions took " + spent + " ms", spent < 60000);
    }

    private static void dearCan() {
        VillageShow show = new VillageShow();
        for (int who = 0; who < 10; who++) {
            show.exhibitor(who, 0, 20, false);
            for (int i = 0; i < 4; i++) {
                show.piece(4 * who + i, who, 0, 1, 1);
            }
        }
        for (int kind = 0; kind < 3; kind++) {
            Checks.schedule(show, kind, "");
            for (int i = 0; i < 5; i++) {
                show.entry(kind, i == 4 && kind > 0 ? 5 + kind : i, 1L << 4 * (i == 4 && kind > 0 ? 5 + kind : i) + kind, 0);
            }
        }
        show.prize(1, 0, 0);
        show.prize(2, 1, 0);
        show.prize(3, 1, 0);
        long start = System.nanoTime();
        int sum = 0;
        for (int i = 0; i < 512; i++) {
            sum += show.can(i % 10);
        }
        System.out.println("512 can: " + (System.nanoTime() - start) / 1000000 + " ms, " + sum);
    }

    private static void dearMoves() {
        VillageShow show = new VillageShow();
        for (int kind = 0; kind < 10; kind++) {
            Checks.schedule(show, kind, "");
            show.year(kind, 0, 20);
            show.lay(kind, kind % 3, 1);
        }
        show.table(0, 79);
        show.table(1, 79);
        show.table(2, 59);
        long start = System.nanoTime();
        int sum = 0;
        for (int i = 0; i < 512; i++) {
            sum += show.moves(true, 0);
        }
        System.out.println("512 moves: " + (System.nanoTime() - start) / 1000000 + " ms, " + sum);
    }

    private static void dearRounds() {
        Random random = new Random(5);
        long worst = 0;
        for (int run = 0; run < 400; run++) {
            VillageShow show = new VillageShow();
            for (int who = 0; who < 10; who++) {
                show.exhibitor(who, random.nextInt(6), 20, false);
                show.piece(who, who, 0, 1, 1);
                Checks.schedule(show, who, "");
                show.entry(who, who, 1L << who, 0);
                show.lay(who, random.nextInt(3), 1);
            }
            for (int judge = 0; judge < 4; judge++) {
                show.judge(judge, random.nextInt(6));
            }
            show.cap(3 + random.nextInt(2));
            long start = System.nanoTime();
            show.round(0);
            worst = Math.max(worst, System.nanoTime() - start);
        }
        System.out.println("the dearest round: " + worst / 1000 + " us");
    }

    private static void dearSets() {
        VillageShow show = new VillageShow();
        show.exhibitor(0, 0, 20, false);
        for (int piece = 0; piece < 10; piece++) {
            show.piece(piece, 0, piece, 1 + 7 * piece, piece);
        }
        StringBuilder text = new StringBuilder("marks 1");
        while (text.length() < 990) {
            text.append("*1+1");
        }
        text.append(";");
        Checks.schedule(show, 0, text.toString());
        Checks.schedule(show, 1, text.toString());
        long start = System.nanoTime();
        long sum = 0;
        for (int i = 0; i < 512; i++) {
            sum += show.sets(0, 0, 1, i % 3);
        }
        System.out.println("512 sets: " + (System.nanoTime() - start) / 1000000 + " ms, " + sum);
    }
}
