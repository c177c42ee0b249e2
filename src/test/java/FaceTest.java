import java.lang.reflect.Array;
import java.lang.reflect.Field;
import java.lang.reflect.Modifier;
import java.util.ArrayList;
import java.util.IdentityHashMap;
import java.util.List;
import java.util.Map;
import java.util.TreeSet;

/** The public face, and how much room an object takes. */
public final class FaceTest {
    public static void main(String[] args) throws Exception {
        TreeSet<String> face = new TreeSet<>();
        for (java.lang.reflect.Method m : PlantKeeper.class.getDeclaredMethods()) {
            if (!Modifier.isPrivate(m.getModifiers())) {
                face.add(m.getName() + m.getParameterCount());
            }
        }
        Bench.due("methods", face.toString().equals("[byteAt1, count1, end1, feed5, frame0, get2, load1, "
            + "put3, restart0, safe3, scan1, station1, watch0, watched0]") ? 1 : 0, 1);
        int visible = 0;
        for (Field f : PlantKeeper.class.getDeclaredFields()) {
            visible += Modifier.isPrivate(f.getModifiers()) ? 0 : 1;
        }
        Bench.due("visible fields", visible, 5);
        Bench.due("BAD", PlantKeeper.BAD, -1);
        Bench.due("STOPPED", PlantKeeper.STOPPED, -2);
        Bench.due("ZERO", PlantKeeper.ZERO, -3);
        Bench.due("INDEX", PlantKeeper.INDEX, -4);
        Bench.due("NONE", PlantKeeper.NONE, -5);
        PlantKeeper x = new PlantKeeper();
        long room = room(x);
        System.out.println("an object takes " + room + " fields and elements");
        Bench.due("room below 450,000", room < 450000 ? 1 : 0, 1);
        Bench.load(x, "PROGRAM p VAR t : TON; a : ARRAY [0 .. 9] OF INT; END_VAR t(IN := TRUE); END_PROGRAM");
        x.scan(1);
        x.restart();
        x.frame();
        Bench.due("calls make nothing that stays", room(x), room);
        Bench.finish("FaceTest");
    }

    /** All fields and elements that can be come to from an object. */
    private static long room(Object from) throws Exception {
        Map<Object, Boolean> seen = new IdentityHashMap<>();
        List<Object> open = new ArrayList<>();
        open.add(from);
        long sum = 0;
        while (!open.isEmpty()) {
            Object o = open.remove(open.size() - 1);
            if (o == null || seen.put(o, true) != null) {
                continue;
            }
            if (o.getClass().isArray()) {
                sum += Array.getLength(o);
                continue;
            }
            for (Field f : o.getClass().getDeclaredFields()) {
                if (!Modifier.isStatic(f.getModifiers())) {
                    sum++;
                    f.setAccessible(true);
                    if (!f.getType().isPrimitive()) {
                        open.add(f.get(o));
                    }
                }
            }
        }
        return sum;
    }
}
