import java.io.IOException;
import java.lang.reflect.Constructor;
import java.lang.reflect.Field;
import java.lang.reflect.Method;
import java.lang.reflect.Modifier;
import java.nio.file.Files;
import java.nio.file.Path;
import java.util.ArrayList;
import java.util.Arrays;
import java.util.List;
import java.util.Set;
import java.util.TreeSet;
import java.util.regex.Matcher;
import java.util.regex.Pattern;

/** The face of the class by reflection; what LANGUAGE.md rules out, by reading the source. */
public final class LanguageTest {
  private static final String[] FACE = {
    "part int", "partIs int int", "become int int", "as int int", "child int int int", "childIs int int",
    "wishes int int int", "falls int int", "worth int int", "cast int int", "feed long int", "text int", "untell int",
    "law int int int int", "play", "lots", "loose int", "seed int", "best int", "wished", "without int",
    "lies int int", "odds int int", "fits int int", "voice int int int", "body int", "sheet int int int",
    "put int int int", "move int int int int int", "casts int", "judge int", "image", "restore", "tell int", "check",
    "count int", "told int"
  };
  /** Words that stand in no line of code. */
  private static final String[] RULED_OUT = {
    "throw", "throws", "try", "catch", "finally", "synchronized", "assert", "import", "package", "volatile",
    "transient", "native", "->", "::", "Object", "Random", "System.(?!arraycopy)", "Math\\.\\w*Exact", "Thread",
    "java\\.", "hashCode", "toString", "String\\.format", "@", "NaN", "Map", "Set\\b", "Stream"
  };
  // The rules say 'some' sixty, twelve, twenty: so there is a little room above.
  private static final int LONGEST_METHOD = 70;
  private static final int MOST_CLASSES = 14;
  private static final int MOST_FIELDS = 24;
  private static final int MOST_PARAMETERS = 7;

  private static int wrong = 0;

  private static void due(boolean holds, String what) {
    if (!holds) {
      wrong++;
      System.out.println(what);
    }
  }

  public static void main(String[] args) throws IOException {
    theFace();
    theClasses();
    theSource(Files.readString(Path.of(args.length > 0 ? args[0] : "src/main/java/PlayParts.java")));
    System.out.println(wrong == 0 ? "the class keeps to its language" : wrong + " breaches");
    if (wrong != 0) {
      System.exit(1);
    }
  }

  private static void theFace() {
    Class<?> type = PlayParts.class;
    due(Modifier.isPublic(type.getModifiers()) && Modifier.isFinal(type.getModifiers()), "not public and final");
    Constructor<?>[] constructors = type.getDeclaredConstructors();
    due(constructors.length == 1 && constructors[0].getParameterCount() == 0, "not the one constructor");
    Set<String> face = new TreeSet<>(Arrays.asList(FACE));
    Set<String> names = new TreeSet<>();
    for (String line : FACE) {
      names.add(line.split(" ")[0]);
    }
    for (Method method : type.getDeclaredMethods()) {
      boolean isPrivate = Modifier.isPrivate(method.getModifiers());
      StringBuilder line = new StringBuilder(method.getName());
      for (Class<?> parameter : method.getParameterTypes()) {
        line.append(' ').append(parameter.getName());
      }
      if (isPrivate) {
        due(!names.contains(method.getName()), "private, by a public one's name: " + method);
      } else {
        due(face.remove(line.toString()), "not of the face: " + method);
        due(method.getReturnType() == int.class && !Modifier.isStatic(method.getModifiers()), "unlike: " + method);
      }
    }
    due(face.isEmpty(), "missing: " + face);
    for (Class<?> inner : type.getDeclaredClasses()) {
      for (Method method : inner.getDeclaredMethods()) {
        boolean hides = Modifier.isPrivate(method.getModifiers()) && names.contains(method.getName());
        due(!hides, "inside, private, by a public one's name: " + method);
      }
    }
  }

  private static void theClasses() {
    List<Class<?>> all = new ArrayList<>(Arrays.asList(PlayParts.class.getDeclaredClasses()));
    for (Class<?> inner : all) {
      due(Modifier.isStatic(inner.getModifiers()), "not static: " + inner);
      due(!Modifier.isPublic(inner.getModifiers()), "public: " + inner);
    }
    all.add(PlayParts.class);
    due(all.size() <= MOST_CLASSES, "too many classes: " + all.size());
    for (Class<?> each : all) {
      int fields = 0;
      for (Field field : each.getDeclaredFields()) {
        boolean isStatic = Modifier.isStatic(field.getModifiers());
        fields += isStatic ? 0 : 1;
        due(!isStatic || Modifier.isFinal(field.getModifiers()), "static and not final: " + field);
        due(each != PlayParts.class || Modifier.isPrivate(field.getModifiers()), "not private: " + field);
      }
      due(fields <= MOST_FIELDS, "too many fields in " + each);
      for (Method method : each.getDeclaredMethods()) {
        due(method.getParameterCount() <= MOST_PARAMETERS, "too many parameters: " + method);
      }
    }
  }

  private static void theSource(String source) {
    due(source.chars().allMatch(c -> c == '\n' || (c >= ' ' && c < 127)), "a sign that is not plain");
    String code = source.replaceAll("(?s)/\\*.*?\\*/", "").replaceAll("//[^\n]*", "");
    for (String word : RULED_OUT) {
      String pattern = Character.isLetter(word.charAt(0)) ? "\\b" + word + (word.matches("\\w+") ? "\\b" : "") : word;
      Matcher found = Pattern.compile(pattern).matcher(code);
      due(!found.find(), "ruled out: " + word);
    }
    theMethods(code);
  }

  private static void theMethods(String code) {
    String[] lines = code.split("\n");
    int start = -1;
    String end = "";
    for (int i = 0; i < lines.length; i++) {
      Matcher head = Pattern.compile("^( {2}| {4})(\\S[^=;]*)\\) \\{$").matcher(lines[i]);
      if (start < 0 && head.matches()) {
        start = i;
        end = head.group(1) + "}";
      } else if (start >= 0 && lines[i].equals(end)) {
        due(i - start + 1 <= LONGEST_METHOD, "a long method: " + lines[start].trim());
        start = -1;
      }
    }
  }
}
