import java.io.IOException;
import java.lang.reflect.Constructor;
import java.lang.reflect.Field;
import java.lang.reflect.Method;
import java.lang.reflect.Modifier;
import java.nio.file.Files;
import java.nio.file.Path;
import java.util.Arrays;
import java.util.Set;
import java.util.TreeSet;
import java.util.regex.Matcher;
import java.util.regex.Pattern;

/** The public face is the document's, and the source keeps to what LANGUAGE.md rules out by plain words. */
public final class FaceTest {
  private static final String INDEX = "IndexOutOfBoundsException";
  private static final String ARGUMENT = "IllegalArgumentException";
  private static final String STATE = "IllegalStateException";

  private static int wrong = 0;

  public static void main(String[] args) throws IOException {
    theClass();
    theMethods();
    theSource();
    System.out.println("FaceTest: " + wrong + " faults");
    if (wrong != 0) {
      System.exit(1);
    }
  }

  private static void fault(String text) {
    wrong++;
    System.out.println(text);
  }

  private static void theClass() {
    int modifiers = ChannelWinter.class.getModifiers();
    if (!Modifier.isPublic(modifiers) || !Modifier.isFinal(modifiers)) {
      fault("the class is not public and final");
    }
    Constructor<?>[] constructors = ChannelWinter.class.getDeclaredConstructors();
    if (constructors.length != 1 || !Modifier.isPublic(constructors[0].getModifiers())
        || constructors[0].getParameterCount() != 0) {
      fault("the constructor is not the document's");
    }
    for (Field field : ChannelWinter.class.getDeclaredFields()) {
      if (!Modifier.isPrivate(field.getModifiers())) {
        fault("field " + field.getName() + " is not private");
      }
    }
  }

  private static void theMethods() {
    Set<String> due = new TreeSet<>(Arrays.asList(
        "int ice(int int) " + INDEX + " " + ARGUMENT + " " + STATE,
        "int land(int) " + INDEX + " " + STATE,
        "int port(int) " + INDEX + " " + ARGUMENT + " " + STATE,
        "int rule(int int int) " + INDEX + " " + ARGUMENT + " " + STATE,
        "boolean exempt(int int) " + INDEX,
        "int breaker(int int) " + INDEX + " " + ARGUMENT + " " + STATE,
        "int ship(int int int int) " + INDEX + " " + ARGUMENT + " " + STATE,
        "int steer(int int) " + INDEX + " " + STATE,
        "int sail(int int) " + INDEX + " " + STATE,
        "int halt(int) " + INDEX,
        "int lead(int int) " + INDEX + " " + STATE,
        "int tow(int int) " + INDEX + " " + STATE,
        "int fuel(int int) " + INDEX + " " + ARGUMENT + " " + STATE,
        "int pass(int int int) " + ARGUMENT,
        "int ofCell(int int) " + INDEX + " " + ARGUMENT,
        "int ofBreaker(int int) " + INDEX + " " + ARGUMENT,
        "int ofShip(int int) " + INDEX + " " + ARGUMENT,
        "int inForce(int int) " + INDEX + " " + ARGUMENT,
        "int many(int) " + ARGUMENT,
        "double meanIce()",
        "int way(int int) " + INDEX,
        "int toBreak(int) " + INDEX,
        "int helpNext(int) " + INDEX,
        "int arriveIn(int int int int) " + INDEX + " " + ARGUMENT,
        "long digest()"));
    Set<String> got = new TreeSet<>();
    Set<String> publicNames = new TreeSet<>();
    for (Method method : ChannelWinter.class.getDeclaredMethods()) {
      if (!Modifier.isPrivate(method.getModifiers())) {
        got.add(described(method));
        publicNames.add(method.getName());
      }
    }
    if (!got.equals(due)) {
      fault("the face is " + got + ", due is " + due);
    }
    for (Class<?> inner : ChannelWinter.class.getDeclaredClasses()) {
      namesAreOther(inner, publicNames);
    }
    namesAreOther(ChannelWinter.class, publicNames);
  }

  private static void namesAreOther(Class<?> owner, Set<String> publicNames) {
    for (Method method : owner.getDeclaredMethods()) {
      boolean ofFace = owner == ChannelWinter.class && Modifier.isPublic(method.getModifiers());
      if (!ofFace && publicNames.contains(method.getName())) {
        fault(owner.getName() + "." + method.getName() + " bears the name of a public method");
      }
    }
  }

  private static String described(Method method) {
    StringBuilder text = new StringBuilder();
    text.append(method.getReturnType().getSimpleName()).append(' ').append(method.getName()).append('(');
    for (Class<?> parameter : method.getParameterTypes()) {
      text.append(parameter.getSimpleName()).append(' ');
    }
    String described = text.toString().trim() + ")";
    for (Class<?> thrown : method.getExceptionTypes()) {
      described = described + " " + thrown.getSimpleName();
    }
    return described;
  }

  private static void theSource() throws IOException {
    String source = Files.readString(Path.of("src/main/java/ChannelWinter.java"));
    String[] ruledOut = {
      "\\bimport\\b", "\\bpackage\\b", "->", "::", "\\bfinally\\b", "\\bsynchronized\\b", "\\bassert\\b",
      "\\bcatch\\b", "\\binstanceof\\b", "\\bequals\\b", "\\bhashCode\\b", "\\btoString\\b", "\\bSystem\\.",
      "Exact\\(", "\\bprotected\\b", "[^\\x00-\\x7f]", "\\bThread\\b", "@"};
    for (String text : ruledOut) {
      Matcher matcher = Pattern.compile(text).matcher(source);
      if (matcher.find()) {
        fault("the source holds " + text);
      }
    }
  }
}
