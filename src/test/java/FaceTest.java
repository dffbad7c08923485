import java.lang.reflect.Constructor;
import java.lang.reflect.Field;
import java.lang.reflect.Method;
import java.lang.reflect.Modifier;
import java.util.HashSet;
import java.util.Set;
import java.util.TreeMap;
import java.util.TreeSet;

/** The public face of the document, and what LANGUAGE.md says of members. */
public final class FaceTest {
    private static final String CONSTANTS = "NAME 0 VAR 1 PAIR 2 SENC 3 AENC 4 PK 5 "
        + "S_INIT 0 S_PAIR 1 S_SENC 2 S_AENC 3 S_PK 4 S_FST 5 S_SND 6 S_SDEC 7 S_ADEC 8 S_RULE 9 "
        + "C_TERMS 0 C_KNOW 1 C_RULES 2 C_STEPS 3 C_PHASE 4 C_UNIVERSE 5 C_KNOWN 6 "
        + "BUILD 0 READY 1 NONE -1 UNDERIVABLE -1 ERR_PHASE -2 ERR_KIND -3 ERR_RANGE -4 "
        + "ERR_HANDLE -5 ERR_FULL -6 ERR_NOT_GROUND -7 ERR_UNBOUND -8 ERR_STEP -9 ERR_INVALID -10";
    private static final String METHODS = "make 3 know 1 rule 3 saturate 0 rank 3 groundId 3 "
        + "step 4 stepFact 1 kindOf 1 child 2 entry 1 ruleTerm 2 count 1";

    public static void main(String[] args) throws Exception {
        Class<?> c = HornProtocol.class;
        Due.holds("the class is public and final",
            (c.getModifiers() & (Modifier.PUBLIC | Modifier.FINAL))
                == (Modifier.PUBLIC | Modifier.FINAL));
        Due.is("nested classes", c.getDeclaredClasses().length, 0);
        Due.is("interfaces", c.getInterfaces().length, 0);
        Constructor<?>[] made = c.getDeclaredConstructors();
        Due.is("constructors", made.length, 1);
        Due.holds("the constructor is public", Modifier.isPublic(made[0].getModifiers()));
        Due.is("its parameters", made[0].getParameterCount(), 3);
        fields(c);
        methods(c);
        Due.end();
    }

    private static TreeMap<String, Integer> listed(String pairs) {
        TreeMap<String, Integer> map = new TreeMap<>();
        String[] words = pairs.split(" ");
        for (int i = 0; i < words.length; i += 2) {
            map.put(words[i], Integer.valueOf(words[i + 1]));
        }
        return map;
    }

    private static void fields(Class<?> c) throws Exception {
        TreeMap<String, Integer> seen = new TreeMap<>();
        int beside = 0;
        for (Field f : c.getDeclaredFields()) {
            int m = f.getModifiers();
            if (Modifier.isPublic(m)) {
                Due.holds(f + " is a constant int", Modifier.isStatic(m) && Modifier.isFinal(m)
                    && f.getType() == int.class);
                seen.put(f.getName(), f.getInt(null));
                continue;
            }
            Due.holds(f + " is private", Modifier.isPrivate(m));
            if (Modifier.isStatic(m)) {
                Due.holds(f + " is a constant number", Modifier.isFinal(m)
                    && (f.getType() == int.class || f.getType() == long.class));
            } else {
                beside++;
                Due.holds(f + " is a number or an array of them", isPlain(f.getType()));
            }
        }
        Due.holds("the constants are " + seen, seen.equals(listed(CONSTANTS)));
        Due.holds("at most forty fields", beside <= 40);
    }

    private static boolean isPlain(Class<?> type) {
        Class<?> t = type.isArray() ? type.getComponentType() : type;
        return t.isPrimitive() && t != float.class && t != double.class;
    }

    private static void methods(Class<?> c) {
        TreeMap<String, Integer> seen = new TreeMap<>();
        Set<String> hidden = new HashSet<>();
        for (Method method : c.getDeclaredMethods()) {
            int m = method.getModifiers();
            Due.holds(method + " has at most seven parameters", method.getParameterCount() <= 7);
            for (Class<?> p : method.getParameterTypes()) {
                Due.holds(method + " takes numbers", isPlain(p));
            }
            if (Modifier.isPublic(m)) {
                Due.holds(method + " answers an int of an object",
                    method.getReturnType() == int.class && !Modifier.isStatic(m));
                Due.holds(method + " is declared once", !seen.containsKey(method.getName()));
                seen.put(method.getName(), method.getParameterCount());
            } else {
                Due.holds(method + " is private", Modifier.isPrivate(m));
                Due.holds(method + " answers no array", !method.getReturnType().isArray());
                hidden.add(method.getName());
            }
        }
        Due.holds("the methods are " + seen, seen.equals(listed(METHODS)));
        Set<String> shared = new TreeSet<>(hidden);
        shared.retainAll(seen.keySet());
        Due.holds("private methods with a public name: " + shared, shared.isEmpty());
    }
}
