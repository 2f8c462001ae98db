import java.lang.reflect.Constructor;
import java.lang.reflect.Field;
import java.lang.reflect.Method;
import java.lang.reflect.Modifier;
import java.util.Set;
import java.util.TreeSet;

/** The public face is the document's, and nothing else can be seen from outside (LANGUAGE.md, rules 1 and 2). */
public final class FaceTest {
  private static final String[] METHODS = {"write(int)", "wipe()", "fault()", "board()", "hart(int,int)", "trigger(int,int)",
      "cell(int)", "order(int,int)", "tick(int)", "send(int,int,int,int)", "set(int,int,int,int,int,boolean)", "buffer(int,int)",
      "clear()", "poke(int,int)", "undo()", "ahead(int,int,int)", "halts(int)", "soonest(int)", "all(int)", "crew()",
      "judge(int,long)", "see(int,int,int)", "unsee()", "which()", "share(int,boolean)", "lost(int,boolean)", "seed(long)",
      "drawn(int)", "keep(int)", "again(int)", "count(int)"};

  public static void main(String[] args) throws IllegalAccessException {
    Check check = new Check("face");
    Class<?> c = HaltRing.class;
    check.due("public and final", Modifier.isPublic(c.getModifiers()) && Modifier.isFinal(c.getModifiers()));
    Set<String> face = new TreeSet<>();
    Set<String> names = new TreeSet<>();
    for (String m : METHODS) {
      face.add(m);
      names.add(m.substring(0, m.indexOf('(')));
    }
    for (Method m : c.getDeclaredMethods()) {
      String signature = signature(m);
      if (Modifier.isPrivate(m.getModifiers())) {
        check.due("private " + signature + " has a name of its own", !names.contains(m.getName()));
        continue;
      }
      check.due(signature + " is of the face", face.remove(signature));
      check.due(signature + " is public and no static one", m.getModifiers(), Modifier.PUBLIC);
      check.due(signature + " answers its type", m.getReturnType() == (m.getName().equals("seed") ? long.class : int.class));
    }
    check.due("missing: " + face, face.isEmpty());
    Constructor<?>[] made = c.getDeclaredConstructors();
    check.due("one constructor", made.length, 1);
    check.due("it is public", Modifier.isPublic(made[0].getModifiers()) && made[0].getParameterCount() == 0);
    int constants = 0;
    for (Field f : c.getDeclaredFields()) {
      if (Modifier.isPrivate(f.getModifiers())) continue;
      constants++;
      check.due(f.getName() + " is a constant", f.getModifiers(), Modifier.PUBLIC | Modifier.STATIC | Modifier.FINAL);
      check.due(f.getName(), f.getInt(null), value(f.getName()));
    }
    check.due("constants", constants, 5);
    for (Class<?> inside : c.getDeclaredClasses()) {
      int m = inside.getModifiers();
      check.due(inside + " is static and not to be seen", Modifier.isStatic(m) && !Modifier.isPublic(m) && !Modifier.isProtected(m));
      for (Method own : inside.getDeclaredMethods()) {
        check.due(inside + "." + own.getName() + " has a name of its own", !names.contains(own.getName()));
      }
    }
    check.end();
  }

  private static String signature(Method m) {
    StringBuilder s = new StringBuilder(m.getName()).append('(');
    for (Class<?> p : m.getParameterTypes()) s.append(s.charAt(s.length() - 1) == '(' ? "" : ",").append(p.getName());
    return s.append(')').toString();
  }

  private static int value(String name) {
    switch (name) {
      case "UNKNOWN": return -1;
      case "OUTSIDE": return -2;
      case "STATE": return -3;
      case "FULL": return -4;
      case "NONE": return -9;
      default: return Integer.MIN_VALUE;
    }
  }
}
