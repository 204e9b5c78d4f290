/** Promises 33 to 38: the queries by box. */
public final class BoxTest {
  public static void main(String[] args) {
    promise33();
    promises34To36();
    promise37();
    promise38();
    Check.end();
  }

  private static void promise33() {
    SpatialPoints p = new SpatialPoints();
    p.insert(-100, -100, -100, 1, 0);
    p.insert(100, 100, 100, 1, 0);
    Check.done("33 lower", () -> p.corner(0, -100, -100, -100));
    Check.due("33 one", () -> p.inBox(), 1);
    Check.done("33 upper", () -> p.corner(1, 100, 100, 100));
    Check.due("33 two", () -> p.inBox(), 2);
    Check.badIndex("33 corner 2", Check.of(() -> p.corner(2, 101, 0, 0)));
    Check.badIndex("33 corner -1", Check.of(() -> p.corner(-1, 0, 0, 0)));
    Check.illegal("33 x", Check.of(() -> p.corner(0, 101, 0, 0)));
    Check.illegal("33 y", Check.of(() -> p.corner(1, 0, -101, 0)));
    Check.illegal("33 z", Check.of(() -> p.corner(1, 0, 0, 101)));
    Check.due("33 unchanged", () -> p.inBox(), 2);
    int[][] above = {{1, 0, 0}, {0, 1, 0}, {0, 0, 1}};
    for (int[] a : above) {
      p.corner(1, 0, 0, 0);
      p.corner(0, a[0], a[1], a[2]);
      Check.due("33 lower above upper", () -> p.inBox(), 0);
    }
  }

  private static SpatialPoints sample() {
    SpatialPoints p = new SpatialPoints();
    p.insert(5, 5, 5, 9, 0);
    p.insert(0, 0, 0, 10, 1);
    p.insert(10, 10, 10, 20, 2);
    p.insert(11, 5, 5, 40, 3);
    p.insert(5, -1, 5, 50, 3);
    p.insert(5, 5, 11, 60, 3);
    p.insert(10, 0, 3, 0, 4);
    p.corner(0, 0, 0, 0);
    p.corner(1, 10, 10, 10);
    return p;
  }

  private static void promises34To36() {
    SpatialPoints none = new SpatialPoints();
    Check.due("34 empty", () -> none.inBox(), 0);
    Check.missing("35 empty", () -> none.boxPoint(0));
    Check.due("36 empty", () -> none.boxWeight(), 0);
    SpatialPoints p = sample();
    Check.due("34 four", () -> p.inBox(), 4);
    int[] due = {0, 1, 2, 6};
    for (int index = 0; index < 4; index++) {
      int i = index;
      Check.due("35 index " + i, () -> p.boxPoint(i), due[i]);
    }
    Check.missing("35 index 4", () -> p.boxPoint(4));
    Check.missing("35 index -1", () -> p.boxPoint(-1));
    Check.due("36 sum", () -> p.boxWeight(), 39);
    p.exclude(1, true);
    p.remove(2);
    Check.due("34 visible", () -> p.inBox(), 2);
    Check.due("35 visible", () -> p.boxPoint(1), 6);
    Check.due("36 visible", () -> p.boxWeight(), 9);
  }

  private static void promise37() {
    SpatialPoints p = sample();
    Check.due("37 x", () -> p.center(0), (5.0 * 9 + 10.0 * 20) / 39.0);
    p.shift(0, -1, 0);
    p.corner(0, 0, -1, 0);
    Check.due("37 y", () -> p.center(1), (4.0 * 9 - 10.0 + 9.0 * 20) / 39.0);
    Check.due("37 z", () -> p.center(2), (5.0 * 9 + 10.0 * 20) / 39.0);
    Check.illegal("37 axis 3", () -> p.center(3));
    Check.illegal("37 axis -1", () -> p.center(-1));
    p.corner(1, -1, -1, -1);
    Check.badArithmetic("37 nothing", () -> p.center(0));
    Check.illegal("37 axis first", () -> p.center(3));
    p.corner(0, 10, -1, 3);
    p.corner(1, 10, -1, 3);
    Check.due("37 one in the box", () -> p.inBox(), 1);
    Check.badArithmetic("37 weight 0", () -> p.center(0));
  }

  private static void promise38() {
    SpatialPoints p = new SpatialPoints();
    Check.due("38 empty", () -> p.visits(), 0);
    p.insert(0, 0, 0, 1, 0);
    p.insert(-10, 0, 0, 1, 0);
    p.insert(10, 0, 0, 1, 0);
    p.insert(-20, -5, 0, 1, 5);
    p.insert(20, 5, 0, 1, 5);
    Check.due("38 the origin", () -> p.visits(), 3);
    p.corner(0, 10, 0, 0);
    p.corner(1, 10, 0, 0);
    Check.due("38 on the right", () -> p.visits(), 4);
    p.exclude(5, true);
    Check.due("38 excluded tags count", () -> p.visits(), 4);
    p.corner(0, -100, -100, -100);
    p.corner(1, 100, 100, 100);
    Check.due("38 all", () -> p.visits(), 5);
    p.corner(0, 1, 0, 0);
    p.corner(1, 0, 0, 0);
    Check.due("38 no box", () -> p.visits(), 1);
    p.corner(0, 0, 0, 1);
    p.corner(1, 0, 0, 100);
    Check.due("38 beside it", () -> p.visits(), 1);
    p.corner(0, -20, -5, 0);
    p.corner(1, -20, -5, 0);
    Check.due("38 on the left", () -> p.visits(), 4);
    p.remove(1);
    p.corner(0, -20, -5, 0);
    Check.due("38 removed nodes are visited", () -> p.visits(), 4);
    p.remove(3);
    Check.due("38 no box left there", () -> p.visits(), 1);
    p.corner(1, 0, 0, 0);
    Check.due("38 a node without a box ends there", () -> p.visits(), 3);
  }
}
