import java.io.IOException;
import java.lang.reflect.Field;
import java.lang.reflect.Method;
import java.lang.reflect.Modifier;
import java.nio.file.Files;
import java.nio.file.Path;
import java.util.ArrayList;
import java.util.List;
import java.util.Set;
import java.util.regex.Matcher;
import java.util.regex.Pattern;

/**
 * ../shared/LANGUAGE.md: what of its rules can be seen in the text of the class and in its
 * members. (The face, rule 1, is looked at by FaceTest.)
 */
public final class LanguageTest {
  private static final Path SOURCE = Path.of("src/main/java/ProtocolMachine.java");

  /** The class uses less than rule 4 lists; what becomes new here, hold against rule 4. */
  private static final Set<String> LIBRARY =
      Set.of("Arrays.fill", "Math.max", "Math.min", "Integer.bitCount", "System.arraycopy");

  /** Rules 2, 6 and 10; the class needs no try at all, so it can catch nothing of the machine's. */
  private static final String[] WORDS_LEFT_OUT = {
    "try", "catch", "finally", "synchronized", "assert", "yield", "native", "transient", "volatile"
  };

  public static void main(String[] args) throws IOException {
    String text = Files.readString(SOURCE);
    String code = withoutComments(text);
    oneFileWithPlainSigns(text);
    wordsLeftOut(code);
    libraryAsListed(code);
    exceptionsAsListed(code);
    nothingMadeButInConstructors(code);
    methodsStayShort(text);
    List<Class<?>> classes = new ArrayList<>();
    classes.add(ProtocolMachine.class);
    classes.addAll(List.of(ProtocolMachine.class.getDeclaredClasses()));
    Check.due("rule 11: at most twelve classes", classes.size() <= 12, true);
    for (Class<?> c : classes) {
      fields(c);
      methods(c);
    }
    Check.end();
  }

  private static String withoutComments(String text) {
    return text.replaceAll("(?s)/\\*.*?\\*/", "").replaceAll("//[^\n]*", "");
  }

  private static String withoutTexts(String code) {
    return code.replaceAll("\"[^\"\n]*\"", "\"\"");
  }

  private static void oneFileWithPlainSigns(String text) throws IOException {
    try (var files = Files.walk(Path.of("src/main"))) {
      Check.due("one file", files.filter(Files::isRegularFile).count(), 1L);
    }
    Check.due("no package line", text.contains("\npackage ") || text.startsWith("package "), false);
    Check.due("rule 4: signs 1 to 127", text.chars().allMatch(sign -> sign < 128), true);
  }

  private static boolean has(String code, String pattern) {
    return Pattern.compile(pattern).matcher(code).find();
  }

  private static void wordsLeftOut(String code) {
    String plain = withoutTexts(code);
    for (String word : WORDS_LEFT_OUT) {
      Check.due("the word " + word, has(plain, "\\b" + word + "\\b"), false);
    }
    Check.due("rule 2: a lambda or a method reference", has(plain, "->|::"), false);
    Check.due("rule 5: a static block", has(plain, "\\bstatic\\s*\\{"), false);
    boolean hasNoBound = has(plain, "while \\(true\\)|for \\(;;|; ;");
    Check.due("rule 9: a loop without a bound", hasNoBound, false);
    Check.due("rule 10: texts joined by +", has(plain, "\"\"\\s*\\+|\\+\\s*\"\""), false);
  }

  private static void libraryAsListed(String code) {
    String plain = withoutTexts(code);
    Matcher imports = Pattern.compile("(?m)^import (.*);").matcher(plain);
    while (imports.find()) {
      Check.due("rule 4: import", imports.group(1), "java.util.Arrays");
    }
    Matcher calls = Pattern.compile("\\b([A-Z][a-z]\\w*\\.\\w+)\\(").matcher(plain);
    while (calls.find()) {
      Check.due("rule 4: " + calls.group(1), LIBRARY.contains(calls.group(1)), true);
    }
  }

  private static void exceptionsAsListed(String code) {
    Matcher throwing = Pattern.compile("\\bthrow\\b[^;]*;").matcher(code);
    String form =
        "throw new (IllegalState|IllegalArgument|IndexOutOfBounds)Exception\\((\"[^\"]*\")?\\);";
    while (throwing.find()) {
      Check.due("rule 6: " + throwing.group(), throwing.group().matches(form), true);
    }
  }

  /** All calls of one run share one room: only fields and the constructor make anything. */
  private static void nothingMadeButInConstructors(String code) {
    for (String line : withoutTexts(code).split("\n")) {
      if (has(line, "\\bnew \\w") && !has(line, "throw new")) {
        boolean ofAField = line.matches(" +final \\w+\\[\\] \\w+ = new \\w+\\[[A-Z *]+\\];");
        boolean ofTheFace = line.matches("    \\w+ = new (Protocol|Execution|Table)\\(\\w*\\);");
        Check.due("rule 12: " + line.trim(), ofAField || ofTheFace, true);
      }
    }
  }

  /** A method begins with a line that ends in a brace, and ends with a brace below its first. */
  private static void methodsStayShort(String text) {
    int begin = 0;
    String end = "";
    String[] lines = text.split("\n");
    for (int i = 0; i < lines.length; i++) {
      boolean begins = lines[i].matches("( {2}| {4})[^ *].*\\(.*") && end.isEmpty();
      if (begins && !lines[i].endsWith(";")) {
        begin = i;
        end = lines[i].replaceAll("\\S.*", "") + "}";
      }
      if (!end.isEmpty() && lines[i].equals(end)) {
        Check.due("rule 11: lines of " + lines[begin].trim(), i - begin < 60, true);
        end = "";
      }
    }
  }

  private static void fields(Class<?> c) {
    int own = 0;
    for (Field f : c.getDeclaredFields()) {
      String name = c.getSimpleName() + "." + f.getName();
      if (Modifier.isStatic(f.getModifiers())) {
        Check.due("rule 5: " + name + " is final", Modifier.isFinal(f.getModifiers()), true);
        Check.due("rule 5: type of " + name, f.getType(), int.class);
      } else {
        own++;
        boolean isOfRows = f.getType().isArray() && f.getType().getComponentType().isArray();
        Check.due("rule 3: " + name + " is a row of rows", isOfRows, false);
      }
    }
    Check.due("rule 11: fields of " + c.getSimpleName(), own <= 20, true);
  }

  private static void methods(Class<?> c) {
    if (c != ProtocolMachine.class) {
      Check.due("rule 1: static " + c.getSimpleName(), Modifier.isStatic(c.getModifiers()), true);
    }
    for (Method m : c.getDeclaredMethods()) {
      Check.due("rule 11: parameters of " + m.getName(), m.getParameterCount() <= 7, true);
      Check.due("rule 6: " + m.getName() + " of every object", isOfEveryObject(m.getName()), false);
    }
  }

  private static boolean isOfEveryObject(String name) {
    return Set.of("equals", "hashCode", "toString", "clone", "finalize").contains(name);
  }
}
