import java.lang.management.ManagementFactory;
import java.lang.reflect.Array;
import java.lang.reflect.Field;
import java.lang.reflect.Modifier;
import java.util.ArrayList;
import java.util.List;
import java.util.Random;

/**
 * All calls of one run live in one room: an object is small, and no call makes anything. And no call throws,
 * whatever the arguments.
 */
public final class RoomTest {
    private static final int[] ODD = {Integer.MIN_VALUE, -1001, -3, -2, -1, 0, 1, 2, 3, 5, 7, 8, 12, 15, 16, 17, 20, 39,
        40, 41, 56, 99, 100, 120, 256, 500, 6272, Integer.MAX_VALUE};

    public static void main(String[] args) {
        long elements = 0, objects = 0;
        List<Object> seen = new ArrayList<>();
        seen.add(new DeputyQuarrels());
        for (int i = 0; i < seen.size(); i++) {
            objects++;
            elements += size(seen, seen.get(i));
        }
        System.out.println("an object: " + objects + " objects and arrays, " + elements + " fields and elements");
        Check.due("an object has over 40000 fields and elements", elements > 40000 ? 1 : 0, 0);
        Check.due("an object has over 100 objects", objects > 100 ? 1 : 0, 0);
        for (int run = 0; run < 300; run++) anyArguments(new Random(run));
        callsMakeNothing();
        Check.close();
    }

    private static long size(List<Object> seen, Object o) {
        if (o.getClass().isArray()) {
            int n = Array.getLength(o);
            for (int i = 0; i < n && o instanceof Object[] row; i++) meet(seen, row[i]);
            return n;
        }
        long n = 0;
        for (Field f : o.getClass().getDeclaredFields()) {
            if (Modifier.isStatic(f.getModifiers())) continue;
            n++;
            f.setAccessible(true);
            try {
                if (!f.getType().isPrimitive()) meet(seen, f.get(o));
            } catch (IllegalAccessException e) {
                throw new IllegalStateException(e);
            }
        }
        return n;
    }

    private static void meet(List<Object> seen, Object o) {
        for (Object s : seen) if (s == o) return;
        if (o != null) seen.add(o);
    }

    private static int odd(Random r) {
        return r.nextInt(3) == 0 ? r.nextInt(4) : ODD[r.nextInt(ODD.length)];
    }

    private static DeputyQuarrels dense(Random r) {
        DeputyQuarrels x = new DeputyQuarrels();
        int persons = 2 + r.nextInt(15);
        StringBuilder s = new StringBuilder("person1;".repeat(persons));
        boolean[] owed = new boolean[256];
        for (int t = r.nextInt(41); t > 0 && s.length() < 440; t--) {
            int a = r.nextInt(persons), b = r.nextInt(persons);
            if (a == b || owed[16 * a + b]) continue;
            owed[16 * a + b] = true;
            s.append("owes").append(a).append(' ').append(b).append(';');
        }
        Check.tell(x, s + "quarrel0 1;quarrel1 0;");
        Check.due("town", x.town(), persons);
        for (int a = 0; a < persons; a++) {
            for (int b = 0; b < a; b++) if (r.nextInt(4) != 0) x.bear(a, b, true);
        }
        x.law(0, 2);
        x.law(1, r.nextInt(2));
        return x;
    }

    private static int anyCall(DeputyQuarrels x, Random r) {
        int a = odd(r), b = odd(r), c = odd(r);
        boolean is = r.nextBoolean();
        switch (r.nextInt(33)) {
            case 0: return x.feed(a, r.nextLong());
            case 1: return r.nextInt(9) == 0 ? x.town() : x.fault();
            case 2: return x.fault();
            case 3: return x.count(a);
            case 4: return x.person(a, b);
            case 5: return x.turn(a, b);
            case 6: return x.grudge(a);
            case 7: return x.law(a, b);
            case 8: return x.bear(a, b, is);
            case 9: return x.quarrel(a, b);
            case 10: return x.may(a);
            case 11: return x.hand(a, b);
            case 12: return x.begin(a);
            case 13: return x.drift(a, b);
            case 14: return x.comes(a, b);
            case 15: return x.end(a, b);
            case 16: return x.forces(a, b);
            case 17: return x.best(a, b);
            case 18: return x.sure(a);
            case 19: return x.aside(a, b);
            case 20: return x.fresh(a, b, c);
            case 21: return x.most(a);
            case 22: return x.worth(a);
            case 23: return x.log(a, b);
            case 24: return r.nextInt(9) == 0 ? x.clear() : 0;
            case 25: return x.judge(a);
            case 26: return x.seen(a, b, is);
            case 27: return x.have(a);
            case 28: return x.seed(a);
            case 29: return x.keep(a);
            case 30: return x.goBack(a);
            default: return x.hand(r.nextInt(2), -1);
        }
    }

    private static void anyArguments(Random r) {
        DeputyQuarrels x = r.nextInt(3) == 0 ? new DeputyQuarrels() : dense(r);
        for (int i = 0; i < 512; i++) anyCall(x, r);
    }

    private static void callsMakeNothing() {
        var meter = (com.sun.management.ThreadMXBean) ManagementFactory.getThreadMXBean();
        long id = Thread.currentThread().getId();
        long most = 0;
        for (int run = 0; run < 20; run++) {
            Random r = new Random(run);
            DeputyQuarrels x = dense(r);
            for (int i = 0; i < 400; i++) anyCall(x, r);
            long before = meter.getThreadAllocatedBytes(id);
            for (int i = 0; i < 512; i++) anyCall(x, r);
            most = Math.max(most, meter.getThreadAllocatedBytes(id) - before);
        }
        System.out.println("512 calls made " + most + " bytes at the most");
        Check.due("calls make something", most > 2000 ? 1 : 0, 0);
    }
}
