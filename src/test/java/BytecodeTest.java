import java.util.ArrayList;
import java.util.HashMap;
import java.util.List;
import java.util.Map;
import java.util.Set;

/** Rules of LANGUAGE.md that show in the compiled class: what it calls, how deep, and what it makes. */
public final class BytecodeTest {
    private static final Set<String> LIBRARY = Set.of("java/lang/Object.<init>()V", "java/lang/Math.abs(I)I",
        "java/lang/Math.abs(J)J", "java/lang/Math.min(II)I", "java/lang/Integer.bitCount(I)I",
        "java/lang/System.arraycopy(Ljava/lang/Object;ILjava/lang/Object;II)V");
    private static final Map<String, ClassFile.Body> bodies = new HashMap<>();
    private static final Map<String, Integer> depths = new HashMap<>();

    public static void main(String[] args) throws Exception {
        List<Class<?>> types = new ArrayList<>(List.of(LeastFrames.class.getDeclaredClasses()));
        types.add(LeastFrames.class);
        for (Class<?> type : types) {
            for (ClassFile.Body body : new ClassFile(type).bodies) {
                bodies.put(body.name, body);
            }
        }
        Due.due("methods that were read", bodies.size() > 80 ? 1 : 0, 1);
        int deepest = 0;
        for (ClassFile.Body body : bodies.values()) {
            rules(body);
            deepest = Math.max(deepest, depth(body.name));
        }
        System.out.println("calls go " + deepest + " deep, the library's among them");
        Due.due("rule 11: at most eight deep, " + deepest, deepest > 3 && deepest <= 8 ? 1 : 0, 1);
        Due.end();
    }

    private static void rules(ClassFile.Body body) {
        boolean starts = body.name.contains(".<init>") || body.name.contains(".<clinit>");
        Due.due("rule 12: only constructors make anything: " + body.name, body.makes && !starts ? 1 : 0, 0);
        Due.due("rule 5: no static field is changed: " + body.name,
            body.sets.isEmpty() || body.name.contains(".<clinit>") ? 0 : 1, 0);
        Due.due("rule 6: no throw: " + body.name, body.throwing ? 1 : 0, 0);
        Due.due("rule 6: no catch: " + body.name, body.catching ? 1 : 0, 0);
        Due.due("rule 6: no lock: " + body.name, body.locking ? 1 : 0, 0);
        Due.due("rule 2: no lambda, no joined texts: " + body.name, body.dynamic ? 1 : 0, 0);
        Due.due("rule 11: at most seven parameters: " + body.name, body.parameters <= 7 ? 1 : 0, 1);
        for (String call : body.calls) {
            boolean own = bodies.containsKey(call);
            Due.due("rule 4: " + body.name + " calls " + call, own || LIBRARY.contains(call) ? 1 : 0, 1);
        }
    }

    /** How many calls stand open at most, this one among them; one that comes back to itself has no end. */
    private static int depth(String name) {
        if (!bodies.containsKey(name)) {
            return 1;
        }
        Integer known = depths.get(name);
        if (known != null) {
            return known;
        }
        depths.put(name, 1000);
        int deepest = 0;
        for (String call : bodies.get(name).calls) {
            deepest = Math.max(deepest, depth(call));
        }
        depths.put(name, deepest + 1);
        return deepest + 1;
    }
}
