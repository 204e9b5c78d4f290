import java.io.IOException;
import java.lang.reflect.Method;
import java.nio.file.Files;
import java.nio.file.Path;
import java.util.List;
import java.util.Set;
import java.util.TreeSet;
import java.util.regex.Matcher;
import java.util.regex.Pattern;

/** README.md: its example answers as it tells, and its tables name every call and every exception. */
public final class ReadmeTest {
  private static final Pattern NAME = Pattern.compile("`(\\w+)`");

  public static void main(String[] args) throws IOException {
    example();
    List<String> lines = Files.readAllLines(Path.of("README.md"));
    kinds(lines);
    exceptions(lines);
    Check.end();
  }

  private static void example() {
    SpatialPoints points = new SpatialPoints();
    Check.due("insert", () -> points.insert(3, -4, 5, 10, 2), 0);
    Check.due("insert", () -> points.insert(1, 1, 1, 20, 7), 1);
    Check.done("query", () -> points.query(0, 0, 0));
    Check.due("nearest", () -> points.nearest(0), 1);
    Check.due("setOption", () -> points.setOption(2, 2), 0);
    Check.due("distance", () -> points.distance(0), 50);
    Check.due("exclude", () -> points.exclude(7, true), false);
    Check.due("nearest", () -> points.nearest(0), 0);
    Check.done("corner", () -> points.corner(0, -10, -10, -10));
    Check.done("corner", () -> points.corner(1, 10, 10, 10));
    Check.due("inBox", points::inBox, 1);
    Check.due("center", () -> points.center(1), -4.0);
    Check.write(points, "5,5,5:9#1;6,6,-6");
    Check.due("read", points::read, 2);
    Check.done("save", points::save);
    Check.due("remove", () -> points.remove(0), 3);
    Check.done("restore", points::restore);
    Check.due("count", () -> points.count(0), 4);
    Check.due("open", () -> points.open(1), 4);
    for (int due : new int[] {1, 0, 2, 3}) {
      Check.due("hasNext", points::hasNext, true);
      Check.due("next", points::next, due);
    }
    Check.due("hasNext", points::hasNext, false);
  }

  private static Set<String> namesIn(String text) {
    Set<String> names = new TreeSet<>();
    Matcher matcher = NAME.matcher(text);
    while (matcher.find()) {
      names.add(matcher.group(1));
    }
    return names;
  }

  private static Set<String> face() {
    Set<String> names = new TreeSet<>();
    for (Method method : SpatialPoints.class.getMethods()) {
      if (method.getDeclaringClass() == SpatialPoints.class) {
        names.add(method.getName());
      }
    }
    return names;
  }

  private static List<String> table(List<String> lines, String head) {
    int from = lines.indexOf(head);
    return lines.subList(from + 2, lines.size()).stream().takeWhile(line -> line.startsWith("|")).toList();
  }

  private static void kinds(List<String> lines) {
    Set<String> named = new TreeSet<>();
    for (String line : table(lines, "| Kind | Calls |")) {
      for (String name : namesIn(line)) {
        Check.due("named once: " + name, () -> named.add(name), true);
      }
    }
    Check.due("the kinds of calls", () -> named, face());
  }

  /** An exception stands in the first row of its reasons only. */
  private static void exceptions(List<String> lines) {
    Set<String> told = new TreeSet<>();
    String exception = "";
    for (String line : table(lines, "| Exception | Reason | Calls |")) {
      String[] cells = line.split("\\|");
      if (!cells[1].isBlank()) {
        exception = namesIn(cells[1]).iterator().next();
      }
      for (String name : namesIn(cells[3])) {
        told.add(name + " throws " + exception);
      }
    }
    Check.due("the refused calls", () -> told, declared());
    int never = lines.indexOf("| Exception | Reason | Calls |");
    String behind = String.join(" ", lines.subList(never, lines.size()));
    String sentence = behind.substring(behind.indexOf("The other calls never throw:"));
    Check.due("the calls that never throw", () -> namesIn(sentence.substring(0, sentence.indexOf('.'))), harmless());
  }

  private static Set<String> declared() {
    Set<String> all = new TreeSet<>();
    for (Method method : SpatialPoints.class.getMethods()) {
      if (method.getDeclaringClass() == SpatialPoints.class) {
        for (Class<?> exception : method.getExceptionTypes()) {
          all.add(method.getName() + " throws " + exception.getSimpleName());
        }
      }
    }
    return all;
  }

  private static Set<String> harmless() {
    Set<String> names = face();
    for (String one : declared()) {
      names.remove(one.substring(0, one.indexOf(' ')));
    }
    return names;
  }
}
