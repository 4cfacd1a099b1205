import java.lang.reflect.Constructor;
import java.lang.reflect.Field;
import java.lang.reflect.Member;
import java.lang.reflect.Method;
import java.lang.reflect.Modifier;
import java.util.ArrayList;
import java.util.Arrays;
import java.util.List;

/** The public face as the document prints it, wrong arguments of every kind, and the room that calls take. */
public final class FaceTest {
    private static final String FACE = "adopt() auction(int,int) back() count(int) days(int) dies(int) fault(int) "
        + "feed(int,int,int,int,int) forge(int) forged() gallery(int,int) give(int,int) keep() known(int) "
        + "law(int,int,int):long log(int,int) look(int,int) match(int) named(int,int) owner(int,int) piece(int,int) "
        + "see(int,boolean) sell(int) strike(int) text(int) tried(int,int,int) undo() who()";
    private static final int[] ODD = {Integer.MIN_VALUE, Integer.MIN_VALUE + 1, -101, -2, -1, 0, 1, 2, 3, 4, 5, 6, 7, 9, 10, 11,
        12, 20, 23, 24, 31, 32, 40, 63, 64, 99, 100, 101, 700, 701, 999, 1000, Integer.MAX_VALUE - 20, Integer.MAX_VALUE};

    private FaceTest() {
    }

    public static void main(String[] args) throws ReflectiveOperationException {
        face();
        odd(new PaidFaces());
        odd(Check.told(full()));
        PaidFaces late = Check.told(full());
        late.days(100);
        odd(late);
        room();
        Check.end();
    }

    private static void face() throws ReflectiveOperationException {
        List<String> names = new ArrayList<>();
        for (Method m : PaidFaces.class.getDeclaredMethods()) {
            if (!Modifier.isPrivate(m.getModifiers()) && !m.isSynthetic()) {
                StringBuilder line = new StringBuilder(m.getName()).append('(');
                for (Class<?> c : m.getParameterTypes()) {
                    line.append(line.charAt(line.length() - 1) == '(' ? "" : ",").append(c.getName());
                }
                names.add(line.append(')').append(m.getReturnType() == long.class ? ":long" : "").toString());
                Check.due("public " + m, Modifier.isPublic(m.getModifiers()) && !Modifier.isStatic(m.getModifiers()), true);
                Class<?> back = m.getName().equals("law") ? long.class : m.getName().equals("known") ? boolean.class : int.class;
                Check.due("what comes back of " + m, m.getReturnType() == back, true);
            }
        }
        names.sort(null);
        Check.due("the face " + names, String.join(" ", names).equals(FACE), true);
        List<Member> others = new ArrayList<>();
        for (Field f : PaidFaces.class.getDeclaredFields()) {
            if (!Modifier.isPrivate(f.getModifiers())) {
                others.add(f);
            }
        }
        Check.due("constants " + others, others.size(), 1);
        Check.due("NONE", PaidFaces.class.getField("NONE").getInt(null), -1);
        Constructor<?>[] made = PaidFaces.class.getDeclaredConstructors();
        Check.due("constructors", made.length, 1);
        Check.due("constructor", Modifier.isPublic(made[0].getModifiers()) && made[0].getParameterCount() == 0, true);
        Check.due("final", Modifier.isFinal(PaidFaces.class.getModifiers()), true);
        Class<?>[] thrown = PaidFaces.class.getMethod("look", int.class, int.class).getExceptionTypes();
        Check.due("look throws", Arrays.asList(thrown).equals(
            List.of(IndexOutOfBoundsException.class, java.util.NoSuchElementException.class)), true);
    }

    /** As much of all as a text can hold. */
    private static String full() {
        StringBuilder s = new StringBuilder();
        for (char c = 'a'; c < 'f'; c++) {
            s.append("feature ").append(c).append(" 3 2;sitter ").append(c).append(" 99 2;");
        }
        for (char c = 'a'; c < 'f'; c++) {
            s.append("wants a ").append(c).append(" 30;wants b ").append(c).append(" 99;");
        }
        return s.append("kin a b a;kin b c b;kin a c c;twin a b;twin c d;heir a b;heir b a;heir c d;hail 1 2 3;")
            .append("law price left+paid;law pick base*base*9999;law bid purse/owned;").toString();
    }

    /** Every call with every odd number: none throws but look, and look only what it may. */
    private static void odd(PaidFaces x) {
        int looked = 0;
        for (int a : ODD) {
            x.fault(a);
            x.match(a);
            x.count(a);
            x.known(a);
            if (a != 0) {
                x.text(a);
            }
            for (int b : ODD) {
                x.named(a, b);
                x.piece(a, b);
                x.log(a, b);
                x.gallery(a, b);
                x.auction(a, b);
                x.owner(a, b);
                looked += Check.look(x, a, b) < Check.INDEX ? 1 : 0;
                for (int c : new int[] {-1, 0, 4, 5, Integer.MIN_VALUE, Integer.MAX_VALUE}) {
                    x.law(a, b, c);
                }
                for (int c : new int[] {-1, 2, 101, Integer.MIN_VALUE, Integer.MAX_VALUE}) {
                    x.tried(a, b, c);
                }
            }
        }
        Check.due("looks that answered", looked, x.count(1) * 6);
        for (int a : ODD) {
            x.see(a, a > 3);
            x.strike(a);
            x.forge(a);
            x.forge(a);
            x.sell(a);
            for (int b : ODD) {
                x.give(a, b);
            }
            x.dies(a);
            x.adopt();
            x.undo();
            x.keep();
            x.who();
            x.forged();
            x.feed(a, a, a, a, a);
            x.days(a < 100 ? Math.min(a, 1) : a);
            x.back();
        }
    }

    /** All calls of one run live in one room: a call makes nothing new, but for the exceptions of look. */
    private static void room() {
        com.sun.management.ThreadMXBean bean =
            (com.sun.management.ThreadMXBean) java.lang.management.ManagementFactory.getThreadMXBean();
        String text = full();
        PaidFaces x = new PaidFaces();
        long made = Long.MAX_VALUE;
        // The first rounds load classes; the least of several is what the calls themselves make.
        for (int round = 0; round < 5; round++) {
            long before = bean.getThreadAllocatedBytes(Thread.currentThread().getId());
            Check.tell(x, text);
            long fed = bean.getThreadAllocatedBytes(Thread.currentThread().getId());
            for (int p = 0; p < 10; p++) {
                x.forge(p);
                x.forge(p);
                x.sell(p);
                x.auction(p, 0);
                x.piece(p, 5);
            }
            x.dies(0);
            x.match(0);
            x.adopt();
            x.undo();
            x.see(1, true);
            x.strike(0);
            x.who();
            x.keep();
            x.days(20);
            x.gallery(50, 0);
            x.tried(4, 0, 50);
            x.back();
            x.look(0, 2);
            long after = bean.getThreadAllocatedBytes(Thread.currentThread().getId());
            made = Math.min(made, after - fed);
            Check.due("told", fed >= before, true);
        }
        Check.due("bytes made by calls: " + made, made < 2000, true);
    }
}
