import java.lang.reflect.Method;
import java.lang.reflect.Modifier;
import java.util.HashMap;
import java.util.Map;

/** Calls the methods of the Model by their names. */
final class Face {
  private final Object target;
  private final Map<String, Method> methods = new HashMap<>();

  Face(Object target) {
    this.target = target;
    for (Method method : target.getClass().getDeclaredMethods()) {
      if (!Modifier.isPrivate(method.getModifiers()) && !Modifier.isStatic(method.getModifiers())) {
        methods.put(method.getName(), method);
      }
    }
  }

  int parameters(String name) {
    return methods.get(name).getParameterCount();
  }

  int call(String name, int... arguments) {
    Object[] boxed = new Object[arguments.length];
    for (int n = 0; n < boxed.length; n++) {
      boxed[n] = arguments[n];
    }
    try {
      return (Integer) methods.get(name).invoke(target, boxed);
    } catch (ReflectiveOperationException e) {
      throw new IllegalStateException(name + " of " + target.getClass(), e);
    }
  }
}
