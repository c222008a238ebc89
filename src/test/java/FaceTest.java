import java.lang.reflect.Constructor;
import java.lang.reflect.Field;
import java.lang.reflect.Method;
import java.lang.reflect.Modifier;
import java.util.Set;
import java.util.TreeSet;

/** The class has the public face of the document, and nothing else that can be seen from outside. */
public final class FaceTest {
    private static final Set<String> DUE = new TreeSet<>(Set.of(
            "public final class SymbolMender",
            "public SymbolMender()",
            "public int SymbolMender.send(int,int,int)",
            "public int SymbolMender.change(int,int)",
            "public int SymbolMender.lose(int,boolean)",
            "public int SymbolMender.at(int)",
            "public int SymbolMender.fits()",
            "public int SymbolMender.mended(int)",
            "public int SymbolMender.wrong()",
            "public int SymbolMender.mend()",
            "public int SymbolMender.product(int,int)",
            "public int SymbolMender.value(int)"));

    public static void main(String[] args) {
        Set<String> seen = new TreeSet<>();
        seen.add(SymbolMender.class.toGenericString());
        for (Constructor<?> constructor : SymbolMender.class.getDeclaredConstructors()) {
            seen.add(constructor.toString());
        }
        for (Method method : SymbolMender.class.getDeclaredMethods()) {
            if (!Modifier.isPrivate(method.getModifiers())) {
                seen.add(method.toString());
            }
        }
        for (Field field : SymbolMender.class.getDeclaredFields()) {
            if (!Modifier.isPrivate(field.getModifiers())) {
                seen.add(field.toString());
            }
        }
        if (!seen.equals(DUE)) {
            System.out.println("the face is " + seen + ", due is " + DUE);
            System.exit(1);
        }
        System.out.println("the face is as due");
    }
}
