import java.io.DataInputStream;
import java.io.IOException;
import java.lang.reflect.Constructor;
import java.lang.reflect.Field;
import java.lang.reflect.Method;
import java.lang.reflect.Modifier;
import java.nio.file.Files;
import java.nio.file.Path;
import java.util.Set;
import java.util.TreeSet;
import java.util.regex.Matcher;
import java.util.regex.Pattern;

/** The public face of the document, and those rules of LANGUAGE.md that a text or a class tells easily. */
public final class FaceTest {
  private static final String[] METHODS = {"int build(int)", "int setPressure(int, long)", "int setInterval(int)",
    "int equip(int, int, int)", "int calibrate(int, int)", "int add(boolean, int, int)", "int run(int)",
    "int type(char)", "int clearText()", "int readParts()", "int perform()", "int undo()", "int keep()",
    "int restore()", "int head(int, int)", "double gauge(int, int)", "int display(int)", "int part(int, int)",
    "int fits(int, int)", "double value(int)", "double foretold(int, int)", "long pressureBits(int)",
    "double trace(int, int)", "int count(int)"};
  private static final String[] CONSTANTS = {"UNKNOWN", "BAD_VALUE", "FULL", "NOT_POSSIBLE", "NONE"};
  /** What the rules 2, 4 to 7 and 10 leave out, as it would stand in the source. */
  private static final String[] LEFT_OUT = {"import ", "package ", "->", "::", "\\btry\\b", "\\bcatch\\b",
    "\\bfinally\\b", "\\bthrow\\b", "\\bsynchronized\\b", "\\bassert\\b", "\\bprotected\\b", "\\bSystem\\b",
    "\\bDouble\\b", "\\bFloat\\b", "\\bMath\\b", "\\bObject\\b", "\\bString\\.", "Exact\\(", "\" \\+", "\\+ \"",
    "static \\{"};

  /** Rule 4: all that the class calls beside its own, and the types that it names. */
  private static final Set<String> LIBRARY = Set.of("java/lang/Object.<init>", "java/lang/String.length",
      "java/lang/String.charAt");
  private static final Set<String> TYPES = Set.of("java/lang/Object", "java/lang/String");

  public static void main(String[] args) throws IOException {
    face();
    nothingElseIsSeen();
    classesInside();
    library();
    source(Files.readString(Path.of("src/main/java/LeakCarousel.java")));
    Check.finish();
  }

  private static void face() {
    Class<?> face = LeakCarousel.class;
    Check.dueTrue("public and final", Modifier.isPublic(face.getModifiers()) && Modifier.isFinal(face.getModifiers()));
    Check.dueTrue("no package", face.getPackageName().isEmpty());
    Check.dueTrue("no class above it", face.getSuperclass() == Object.class && face.getInterfaces().length == 0);
    Set<String> methods = new TreeSet<>();
    for (Method method : face.getDeclaredMethods()) {
      if (Modifier.isPublic(method.getModifiers())) {
        methods.add(told(method));
        Check.dueTrue(method + " is of an object", !Modifier.isStatic(method.getModifiers()));
        Check.due("exceptions of " + method, method.getExceptionTypes().length, 0);
      }
    }
    Check.dueTrue("methods " + methods, methods.equals(Set.of(METHODS)));
    Constructor<?>[] constructors = face.getDeclaredConstructors();
    Check.due("constructors", constructors.length, 1);
    Check.due("parameters", constructors[0].getParameterCount(), 0);
    Check.dueTrue("public constructor", Modifier.isPublic(constructors[0].getModifiers()));
    Set<String> constants = new TreeSet<>();
    for (Field field : face.getDeclaredFields()) {
      if (Modifier.isPublic(field.getModifiers())) {
        constants.add(field.getName());
        int flags = Modifier.PUBLIC | Modifier.STATIC | Modifier.FINAL;
        Check.dueTrue(field + "", field.getModifiers() == flags && field.getType() == int.class);
      }
    }
    Check.dueTrue("constants " + constants, constants.equals(Set.of(CONSTANTS)));
  }

  private static String told(Method method) {
    StringBuilder words = new StringBuilder();
    for (Class<?> type : method.getParameterTypes()) {
      words.append(words.length() == 0 ? "" : ", ").append(type.getName());
    }
    return method.getReturnType().getName() + " " + method.getName() + "(" + words + ")";
  }

  private static void nothingElseIsSeen() {
    Set<String> names = new TreeSet<>();
    for (String method : METHODS) {
      names.add(method.substring(method.indexOf(' ') + 1, method.indexOf('(')));
    }
    for (Method method : LeakCarousel.class.getDeclaredMethods()) {
      boolean isPrivate = Modifier.isPrivate(method.getModifiers());
      Check.dueTrue(method + " is public or private", isPrivate || Modifier.isPublic(method.getModifiers()));
      Check.dueTrue(method + " bears its own name", !isPrivate || !names.contains(method.getName()));
    }
    for (Field field : LeakCarousel.class.getDeclaredFields()) {
      int modifiers = field.getModifiers();
      Check.dueTrue(field + " is public or private", Modifier.isPrivate(modifiers) || Modifier.isPublic(modifiers));
    }
  }

  private static void classesInside() {
    Class<?>[] inside = LeakCarousel.class.getDeclaredClasses();
    Check.dueTrue("at most twelve classes", inside.length <= 11);
    for (Class<?> type : inside) {
      int modifiers = type.getModifiers();
      Check.dueTrue(type + " is static", Modifier.isStatic(modifiers));
      Check.dueTrue(type + " is hidden", !Modifier.isPublic(modifiers) && !Modifier.isProtected(modifiers));
      Check.dueTrue(type + " has some twenty fields", type.getDeclaredFields().length <= 20);
      staticsAreConstants(type);
    }
    staticsAreConstants(LeakCarousel.class);
  }

  private static void staticsAreConstants(Class<?> type) {
    for (Field field : type.getDeclaredFields()) {
      Class<?> kind = field.getType();
      boolean allowed = kind == int.class || kind == long.class || kind == boolean.class || kind == char.class
          || kind == String.class;
      boolean constant = Modifier.isFinal(field.getModifiers()) && allowed;
      Check.dueTrue(field + " is a constant", constant || !Modifier.isStatic(field.getModifiers()));
    }
    for (Method method : type.getDeclaredMethods()) {
      Check.dueTrue(method + " has at most seven parameters", method.getParameterCount() <= 7);
    }
  }

  // ---- what the compiled classes name

  private static void library() throws IOException {
    namesIn(LeakCarousel.class);
    for (Class<?> inside : LeakCarousel.class.getDeclaredClasses()) {
      namesIn(inside);
    }
  }

  private static void namesIn(Class<?> type) throws IOException {
    try (DataInputStream in = new DataInputStream(type.getResourceAsStream(type.getName() + ".class"))) {
      in.skipBytes(8);
      Object[] pool = new Object[in.readUnsignedShort()];
      for (int i = 1; i < pool.length; i++) {
        int tag = in.readUnsignedByte();
        pool[i] = entry(in, tag);
        // a long or a double takes two places
        i += tag == 5 || tag == 6 ? 1 : 0;
      }
      for (Object entry : pool) {
        if (entry instanceof int[] parts) {
          dueAllowed(type, pool, parts);
        }
      }
    }
  }

  /** A text, the numbers of other entries behind their tag, or nothing that tells a name. */
  private static Object entry(DataInputStream in, int tag) throws IOException {
    switch (tag) {
      case 1: return in.readUTF();
      case 7: return new int[] {tag, in.readUnsignedShort()};
      case 9: case 10: case 11: case 12: return new int[] {tag, in.readUnsignedShort(), in.readUnsignedShort()};
      case 5: case 6: return in.readLong();
      case 8: case 16: case 19: case 20: return in.readShort();
      case 15: return in.skipBytes(3);
      default: return in.readInt();
    }
  }

  private static void dueAllowed(Class<?> type, Object[] pool, int[] parts) {
    if (parts[0] == 7) {
      String name = (String) pool[parts[1]];
      boolean own = name.matches("(\\[L)?LeakCarousel(\\$\\w+)?;?");
      boolean numbers = name.matches("\\[{1,2}[A-Z]");
      Check.dueTrue(type + " names " + name, own || numbers || TYPES.contains(name));
    } else if (parts[0] == 10 || parts[0] == 11) {
      String owner = (String) pool[((int[]) pool[parts[1]])[1]];
      String call = owner + "." + pool[((int[]) pool[parts[2]])[1]];
      Check.dueTrue(type + " calls " + call, owner.startsWith("LeakCarousel") || LIBRARY.contains(call));
    }
  }

  private static void source(String source) {
    String code = source.replaceAll("(?s)/\\*.*?\\*/", "").replaceAll("//[^\n]*", "");
    for (String words : LEFT_OUT) {
      Matcher matcher = Pattern.compile(words).matcher(code);
      Check.dueTrue("the source is without " + words, !matcher.find());
    }
    for (int i = 0; i < source.length(); i++) {
      if (source.charAt(i) > 127 || source.charAt(i) == '\t') {
        Check.due("sign at " + i, source.charAt(i), ' ');
      }
    }
  }
}
