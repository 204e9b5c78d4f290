import java.util.ArrayList;
import java.util.List;
import java.util.Map;
import java.util.TreeMap;
import java.util.stream.IntStream;

/** The bounds that the promises 10 to 20 name, a run for each sentence. */
public final class TreeCallsBoundsTest {
  private static final int LEAST = Run.LEAST;
  private static final int GREATEST = Run.GREATEST;
  /** In the run of Rich, 13 is the first number that is not created, and 10 has left the tree. */
  private static final int[] NOT_IN_THE_TREE = {-1, 10, 13, 199, 200, LEAST, GREATEST};

  public static void main(String[] args) {
    promise10();
    promise11();
    promise12();
    promise13();
    promise14();
    promise15();
    promise16();
    promise17();
    promise17Full();
    promise17Refused();
    promise18();
    promise19();
    promise20();
    Check.end();
  }

  private static void promise10() {
    Run.of("10 root", "Throws NoSuchElementException if the tree is empty")
        .refuses("root()", Run.MISSING)
        .at(0, 0, 0)
        .due("root()", 0)
        .calls("remove(0)")
        .refuses("root()", Run.MISSING)
        .at(0, 0, 0)
        .due("root()", 1);
    Run.of("10 root", "Returns the point of the root.")
        .line(0, 2)
        .calls("remove(0)")
        .due("root()", 0);
  }

  private static void promise11() {
    Run.of("11 child", "Returns the number of the point, or -1 if there is no such child.")
        .at(0, 0, 0)
        .due("child(0, 0)", -1)
        .due("child(0, 1)", -1)
        .at(-1, 0, 0)
        .due("child(0, 0)", 1)
        .due("child(0, 1)", -1)
        .at(1, 0, 0)
        .due("child(0, 1)", 2)
        .calls("remove(1)")
        .due("child(0, 0)", 1)
        .due("child(1, 0)", -1);
    Run.rich("11 child", "Throws NoSuchElementException if the point is not in the tree")
        .refusesEach("child($, 0)", Run.MISSING, NOT_IN_THE_TREE);
    Run.of("11 child", "Throws NoSuchElementException if the point is not in the tree")
        .refuses("child(0, 0)", Run.MISSING);
    Run.rich("11 child", "Throws IllegalArgumentException if side is neither 0 nor 1")
        .refusesEach("child(0, $)", Run.ILLEGAL, -1, 2, LEAST, GREATEST)
        .refusesEach("child(11, $)", Run.ILLEGAL, -1, 2);
  }

  private static void promise12() {
    Run.of("12 parent", "Returns the number of the point, or -1 for the root.")
        .at(0, 0, 0)
        .due("parent(0)", -1)
        .at(1, 0, 0)
        .due("parent(1)", 0)
        .calls("rebuild()")
        .due("parent(1)", -1)
        .due("parent(0)", 1)
        .calls("remove(1)")
        .due("parent(1)", -1)
        .due("parent(0)", 1);
    Run.rich("12 parent", "Throws NoSuchElementException if the point is not in the tree")
        .refusesEach("parent($)", Run.MISSING, NOT_IN_THE_TREE);
    Run.of("12 parent", "Throws NoSuchElementException if the point is not in the tree")
        .refuses("parent(0)", Run.MISSING);
  }

  private static void promise13() {
    Run.of("13 depth", "Returns the depth of a node.")
        .line(0, 3)
        .calls("remove(1)")
        .due("depth(0)", 0).due("depth(1)", 1).due("depth(2)", 2);
    Run.rich("13 depth", "Throws NoSuchElementException if the point is not in the tree")
        .refusesEach("depth($)", Run.MISSING, NOT_IN_THE_TREE);
    Run.of("13 depth", "Throws NoSuchElementException if the point is not in the tree")
        .refuses("depth(0)", Run.MISSING);
  }

  private static void promise14() {
    Run.of("14 height", "Returns the height, 0 for the empty tree.")
        .due("height()", 0)
        .at(0, 0, 0)
        .due("height()", 1)
        .at(1, 1, 1)
        .due("height()", 2)
        .calls("remove(0)", "remove(1)")
        .due("height()", 0);
    Run.of("14 height", "Returns the height of the tree, that is, the greatest depth of a node plus 1.")
        .line(0, 3)
        .calls("remove(2)")
        .due("height()", 3)
        .calls("rebuild()")
        .due("height()", 2);
    Run.of("14 height", "Returns the height of the tree, that is, the greatest depth of a node plus 1.")
        .line(0, 60)
        .calls("rebuild()")
        .due("height()", 6);
  }

  private static void promise15() {
    Run.of("15 subtree", "0 for all nodes, 1 for the live points")
        .line(0, 3)
        .calls("remove(2)")
        .due("subtree(0, 0)", 3).due("subtree(0, 1)", 2)
        .due("subtree(1, 0)", 2).due("subtree(1, 1)", 1)
        .due("subtree(2, 0)", 1).due("subtree(2, 1)", 0);
    Run.rich("15 subtree", "Throws NoSuchElementException if the point is not in the tree")
        .refusesEach("subtree($, 0)", Run.MISSING, NOT_IN_THE_TREE)
        .refusesEach("subtree($, 1)", Run.MISSING, NOT_IN_THE_TREE);
    Run.of("15 subtree", "Throws NoSuchElementException if the point is not in the tree")
        .refuses("subtree(0, 0)", Run.MISSING);
    Run.rich("15 subtree", "Throws IllegalArgumentException if what is neither 0 nor 1")
        .refusesEach("subtree(0, $)", Run.ILLEGAL, -1, 2, LEAST, GREATEST)
        .refusesEach("subtree(11, $)", Run.ILLEGAL, -1, 2);
  }

  private static void promise16() {
    Run.rich("16 count", "0 for the live points, 1 for the removed points in the tree, 2 for the points "
        + "created, 3 for the visible points")
        .due("count(0)", 11).due("count(1)", 1).due("count(2)", 13).due("count(3)", 9);
    Run full = Run.of("16 count", "Returns a number of points.").turnover(200);
    full.calls("exclude(0, true)")
        .due("count(0)", 59).due("count(2)", 200).due("count(3)", 0)
        .calls("rebuild()")
        .due("count(1)", 0);
    Run.rich("16 count", "Throws IllegalArgumentException if what is not from 0 to 3")
        .refusesEach("count($)", Run.ILLEGAL, -1, 4, LEAST, GREATEST);
  }

  private static void promise17() {
    Run.of("17 bound", "0 for the smallest, 1 for the greatest coordinate")
        .at(-100, 100, 0)
        .due("bound(0, 0, 0)", -100).due("bound(0, 0, 1)", -100)
        .due("bound(0, 1, 0)", 100).due("bound(0, 1, 1)", 100)
        .due("bound(0, 2, 0)", 0).due("bound(0, 2, 1)", 0)
        .at(100, -100, -100).at(0, 0, 100)
        .due("bound(0, 0, 0)", -100).due("bound(0, 0, 1)", 100)
        .due("bound(0, 1, 0)", -100).due("bound(0, 1, 1)", 100)
        .due("bound(0, 2, 0)", -100).due("bound(0, 2, 1)", 100);
    Run.of("Metrics", "the smallest and the greatest coordinate of the live points of its subtree")
        .at(0, 0, 0).at(-7, -8, -9).at(7, 8, 9).at(3, 8, -1)
        .calls("exclude(0, true)")
        .due("bound(0, 0, 0)", -7).due("bound(0, 1, 0)", -8).due("bound(0, 2, 0)", -9)
        .due("bound(0, 0, 1)", 7).due("bound(0, 1, 1)", 8).due("bound(0, 2, 1)", 9)
        .calls("remove(1)")
        .due("bound(0, 0, 0)", 0).due("bound(0, 1, 0)", 0).due("bound(0, 2, 0)", -1)
        .calls("remove(2)")
        .due("bound(0, 0, 1)", 3).due("bound(0, 1, 1)", 8).due("bound(0, 2, 1)", 0)
        .due("bound(2, 0, 0)", 3).due("bound(2, 1, 0)", 8).due("bound(2, 2, 1)", -1);
  }

  /** As many points as there can be, with numbers up to the last one. */
  private static Run full() {
    return Run.of("Metrics", "the smallest and the greatest coordinate of the live points of its subtree")
        .scatter(200).calls("rebuild()", "remove(199)", "remove(198)", "remove(197)", "remove(150)");
  }

  private static void promise17Full() {
    Run shape = full();
    Map<Integer, List<Integer>> live = new TreeMap<>();
    liveUnder(shape, shape.number("root()"), live);
    Check.due("nodes", () -> live.size(), 59);
    for (int axis = 0; axis < 3; axis++) {
      int a = axis;
      Run run = full();
      live.forEach((node, points) -> {
        for (int side = 0; side < 2; side++) {
          IntStream all = points.stream().mapToInt(id -> Run.scattered(id, a));
          Object due = points.isEmpty() ? Run.MISSING
              : (Object) (side == 0 ? all.min() : all.max()).getAsInt();
          run.due("bound(" + node + ", " + a + ", " + side + ")", due);
        }
      });
    }
  }

  private static List<Integer> liveUnder(Run run, int node, Map<Integer, List<Integer>> live) {
    List<Integer> all = new ArrayList<>();
    if (node != -1) {
      all.addAll(liveUnder(run, run.number("child(" + node + ", 0)"), live));
      all.addAll(liveUnder(run, run.number("child(" + node + ", 1)"), live));
      if (node < 197 && node != 150) {
        all.add(node);
      }
      live.put(node, all);
    }
    return all;
  }

  private static void promise17Refused() {
    String sentence = "Throws NoSuchElementException if the point is not in the tree or its subtree has no "
        + "live points";
    Run.rich("17 bound", sentence)
        .refusesEach("bound($, 0, 0)", Run.MISSING, NOT_IN_THE_TREE);
    Run.of("17 bound", sentence)
        .refuses("bound(0, 0, 0)", Run.MISSING)
        .line(0, 3)
        .calls("remove(2)")
        .refuses("bound(2, 0, 0)", Run.MISSING)
        .due("bound(1, 0, 0)", 1)
        .calls("setOption(0, 95)", "setOption(1, 90)", "remove(1)")
        .refuses("bound(1, 2, 1)", Run.MISSING)
        .due("bound(0, 0, 1)", 0)
        .calls("insert(5, 5, 5, 1, 0)")
        .due("bound(0, 0, 1)", 5)
        .due("bound(1, 0, 0)", 5);
    Run.rich("17 bound", "Throws IllegalArgumentException if axis or side is out of range")
        .refusesEach("bound(0, $, 0)", Run.ILLEGAL, -1, 3, LEAST, GREATEST)
        .refusesEach("bound(0, 0, $)", Run.ILLEGAL, -1, 2, LEAST, GREATEST);
  }

  private static void promise18() {
    Run.rich("18 setOption", "Throws IndexOutOfBoundsException if there is no such option")
        .refusesEach("setOption($, 1)", Run.BAD_INDEX, -1, 6, LEAST, GREATEST)
        .refusesEach("setOption($, 70)", Run.BAD_INDEX, -1, 6, LEAST, GREATEST);
    int[][] ranges = {{55, 95}, {10, 90}, {0, 3}, {1, 9}, {1, 9}, {1, 9}};
    int[] previous = {80, 60, 3, 2, 3, 4};
    for (int option = 0; option < 6; option++) {
      String call = "setOption(" + option + ", $)";
      int[] range = ranges[option];
      Run.rich("18 setOption", "Throws IllegalArgumentException if the value is out of range")
          .refusesEach(call, Run.ILLEGAL, range[0] - 1, range[1] + 1, LEAST, GREATEST);
      Run.rich("18 setOption", "Returns the previous value.")
          .due(call.replace("$", "" + range[0]), previous[option])
          .due(call.replace("$", "" + range[1]), range[0])
          .due(call.replace("$", "" + range[1]), range[1]);
    }
  }

  private static void promise19() {
    Run.of("19 rebuild", "Returns the number of removed points that left the tree.")
        .due("rebuild()", 0)
        .line(0, 4)
        .due("rebuild()", 0)
        .calls("remove(0)", "remove(3)")
        .due("rebuild()", 2)
        .due("count(1)", 0)
        .due("rebuild()", 0)
        .due("rebuilds(2)", 4);
    Run.of("19 rebuild", "Rebuilds the whole tree.")
        .calls("setOption(0, 95)").line(0, 7)
        .due("root()", 0)
        .calls("rebuild()")
        .due("root()", 3)
        .due("height()", 3);
  }

  private static void promise20() {
    Run.of("20 rebuilds", "The statistics are 0 at first.").dueForEach("rebuilds($)", 0, 0, 1, 2, 3);
    Run.of("20 rebuilds", "0 for the number of rebuilds after insertions, 1 for the number of those after "
        + "removals, 2 for the number of those by rebuild")
        .line(0, 4)
        .due("rebuilds(0)", 1).due("rebuilds(1)", 0).due("rebuilds(2)", 0)
        .calls("remove(0)", "remove(1)", "remove(2)")
        .due("rebuilds(0)", 1).due("rebuilds(1)", 1).due("rebuilds(2)", 0)
        .calls("rebuild()", "rebuild()")
        .due("rebuilds(0)", 1).due("rebuilds(1)", 1).due("rebuilds(2)", 2)
        .text("0,0,0;1,0,0;2,0,0;3,0,0")
        .calls("read()")
        .due("rebuilds(0)", 2).due("rebuilds(1)", 1).due("rebuilds(2)", 2);
    Run.of("20 rebuilds", "3 for the number of live points in the subtrees rebuilt, added over all rebuilds")
        .line(0, 4)
        .due("rebuilds(3)", 4)
        .calls("remove(0)", "remove(1)")
        .due("rebuilds(3)", 4)
        .calls("remove(2)")
        .due("rebuilds(3)", 5)
        .calls("rebuild()")
        .due("rebuilds(3)", 6)
        .calls("remove(3)")
        .due("rebuilds(3)", 6)
        .due("rebuilds(1)", 2)
        .calls("rebuild()")
        .due("rebuilds(3)", 6)
        .due("rebuilds(2)", 2);
    Run.rich("20 rebuilds", "Throws IllegalArgumentException if what is not from 0 to 3")
        .refusesEach("rebuilds($)", Run.ILLEGAL, -1, 4, LEAST, GREATEST);
  }
}
