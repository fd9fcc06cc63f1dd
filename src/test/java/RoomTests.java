import com.sun.management.ThreadMXBean;
import java.lang.management.ManagementFactory;
import java.lang.reflect.Array;
import java.lang.reflect.Field;
import java.lang.reflect.Modifier;
import java.util.IdentityHashMap;
import java.util.Map;

/**
 * All calls of a run live in one room: an object is small when made, and its calls make nothing more. Nothing in it is
 * null, so no call can meet one.
 */
public final class RoomTests {
    private static final Due DUE = new Due();
    private static final String TEXT = "rope 8; wide 10; fast 5; act a 2 1; act b -2 1; act c 1 0 if lean<3 and not swing<-1;"
        + "act d -1 0 if -2<lean; act e 0 1; act f 0 -1; gusts 0 8 -1 1; gusts 2 5 -2 1 if swing<=0 or lean/swing==2;"
        + "reflex 2<lean do a; reflex lean<-2 do b; reflex 0<swing and at!=3 do c; reflex swing<0 do d;";

    private static long elements(Object of, Map<Object, Boolean> met) throws IllegalAccessException {
        if (of == null || of instanceof String || met.put(of, true) != null) {
            return 0;
        }
        if (of.getClass().isArray()) {
            return Array.getLength(of);
        }
        long found = 0;
        for (Field f : of.getClass().getDeclaredFields()) {
            if (!Modifier.isStatic(f.getModifiers())) {
                f.setAccessible(true);
                DUE.is("a new object's " + f + " is there", f.get(of) != null, true);
                found += 1 + (f.getType().isPrimitive() ? 0 : elements(f.get(of), met));
            }
        }
        return found;
    }

    private static void all(RopeSchool x, int s, int i) {
        x.fate(s);
        x.keep(s);
        x.reach(s);
        x.lead(s);
        x.borne(s);
        x.poles(s);
        x.doom();
        x.edge(i, 0, true);
        x.safe(i);
        x.forecast(i - 3);
        x.known(s);
        x.knownAct(s, 0);
        x.blind(s, 3);
        x.blindAct(s, 3, 0);
        x.proof(s);
        x.witness(s, 0);
        x.arrives(s);
        x.odds(s, 12, 2);
        x.learn(s);
        x.drill(s, i, 20, 20, 0);
        x.hold(0);
        x.compare(0, 1);
        x.stand(s);
        x.blame();
        x.feed(0x726f7065, 0x20383b20, 0x20202020, 0x20202020, 0x20202020);
        x.read();
    }

    public static void main(String[] args) throws IllegalAccessException {
        RopeSchool x = new RopeSchool();
        Map<Object, Boolean> met = new IdentityHashMap<>();
        long elements = elements(x, met);
        System.out.println(met.size() + " objects, " + elements + " fields and elements an object of the class");
        DUE.is("an object of the class has few parts", met.size() < 100, true);
        DUE.is("an object of the class is small", elements < 200_000, true);
        Due.read(x, TEXT);
        all(x, 115, 0);
        ThreadMXBean bean = (ThreadMXBean) ManagementFactory.getThreadMXBean();
        long thread = Thread.currentThread().getId();
        bean.getThreadAllocatedBytes(thread);
        long before = bean.getThreadAllocatedBytes(thread);
        for (int i = 1; i < 8; i++) {
            all(x, x.state(i, 1, 0), i);
        }
        long made = bean.getThreadAllocatedBytes(thread) - before;
        System.out.println(made + " bytes made by some two hundred calls");
        DUE.is("calls make nothing", made < 4096, true);
        DUE.end();
    }
}
