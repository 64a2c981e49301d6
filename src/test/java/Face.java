import java.lang.reflect.InvocationTargetException;
import java.lang.reflect.Method;
import java.lang.reflect.Modifier;
import java.util.Arrays;
import java.util.Comparator;
import java.util.List;

/** The methods of the face, to be called by name on the program and on PlainSampler alike. */
final class Face {
    static final List<Method> METHODS = Arrays.stream(PlainSampler.class.getDeclaredMethods())
        .filter(m -> Modifier.isPublic(m.getModifiers())).sorted(Comparator.comparing(Method::getName)).toList();

    private Face() { }

    static int answer(Object object, String name, int... args) {
        try {
            Class<?>[] types = new Class<?>[args.length];
            Arrays.fill(types, int.class);
            Object[] boxed = Arrays.stream(args).boxed().toArray();
            return (int) object.getClass().getMethod(name, types).invoke(object, boxed);
        } catch (InvocationTargetException e) {
            throw new IllegalStateException(name + Arrays.toString(args) + " threw", e.getCause());
        } catch (ReflectiveOperationException e) {
            throw new IllegalStateException("there is no " + name, e);
        }
    }
}
