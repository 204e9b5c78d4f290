/** Promises 1 to 9: the new object, and the points. */
public final class PointsTest {
  public static void main(String[] args) {
    promise1();
    promise2();
    promise2Limits();
    promise2Places();
    promise3();
    promise4();
    promises5To7();
    promise8();
    promise9();
    promise9InTheTreeAlone();
    Check.end();
  }

  private static void promise1() {
    SpatialPoints p = new SpatialPoints();
    Check.badState("1 cursor not open", () -> p.hasNext());
    Check.badState("1 no next point", () -> p.next());
    Check.due("1 live", () -> p.count(0), 0);
    Check.due("1 removed", () -> p.count(1), 0);
    Check.due("1 created", () -> p.count(2), 0);
    Check.due("1 visible", () -> p.count(3), 0);
    Check.due("1 height", () -> p.height(), 0);
    Check.due("1 fault", () -> p.faultPosition(), -1);
    for (int what = 0; what < 4; what++) {
      int w = what;
      Check.due("1 statistic " + w, () -> p.rebuilds(w), 0);
    }
    int[] values = {70, 50, 0, 1, 1, 1};
    for (int option = 0; option < 6; option++) {
      int o = option;
      Check.due("1 option " + o, () -> p.setOption(o, values[o]), values[o]);
    }
    for (int tag = 0; tag < 10; tag++) {
      int t = tag;
      Check.due("1 tag " + t, () -> p.exclude(t, false), false);
    }
    p.insert(0, 0, 0, 3, 0);
    p.insert(1, 0, 0, 4, 0);
    Check.due("1 query point", () -> p.distance(0), 0);
    Check.due("1 query box", () -> p.boxWeight(), 3);
    Check.badState("1 cursor", () -> p.hasNext());
    Check.badState("1 snapshot", Check.of(() -> p.restore()));
  }

  private static void promise2() {
    SpatialPoints p = new SpatialPoints();
    int[][] wrong = {
      {101, 0, 0, 0, 0}, {-101, 0, 0, 0, 0}, {0, 101, 0, 0, 0}, {0, -101, 0, 0, 0},
      {0, 0, 101, 0, 0}, {0, 0, -101, 0, 0}, {0, 0, 0, 100, 0}, {0, 0, 0, -1, 0},
      {0, 0, 0, 0, 10}, {0, 0, 0, 0, -1}, {2147483647, 0, 0, 0, 0}, {0, -2147483648, 0, 0, 0}};
    for (int[] w : wrong) {
      Check.illegal("2 wrong", () -> p.insert(w[0], w[1], w[2], w[3], w[4]));
    }
    Check.due("2 nothing made", () -> p.count(2), 0);
    Check.due("2 least", () -> p.insert(-100, -100, -100, 0, 0), 0);
    Check.due("2 greatest", () -> p.insert(100, 100, 100, 99, 9), 1);
    Check.due("2 same place", () -> p.insert(100, 100, 100, 99, 9), 2);
    Check.due("2 live", () -> p.count(0), 3);
    Check.due("2 equal goes right", () -> p.child(1, 1), 2);
  }

  private static void promise2Limits() {
    SpatialPoints p = new SpatialPoints();
    for (int i = 0; i < 60; i++) {
      p.insert(i, -i, i % 7, 1, 0);
    }
    Check.badState("2 61st live point", () -> p.insert(0, 0, 0, 0, 0));
    Check.illegal("2 range before room", () -> p.insert(0, 0, 0, 0, 10));
    Check.due("2 none made", () -> p.count(2), 60);
    makeUpTo200(p);
    Check.due("2 200 made", () -> p.count(2), 200);
    Check.due("2 room again", () -> p.remove(199), 59);
    Check.badState("2 201st point", () -> p.insert(0, 0, 0, 0, 0));
    Check.due("2 none more", () -> p.count(0), 59);
  }

  private static void makeUpTo200(SpatialPoints p) {
    for (int i = p.count(2); i < 200; i++) {
      if (i >= 60) {
        p.remove(i - 60);
      }
      p.insert(i % 90, -(i % 80), i % 7, 1, 0);
    }
  }

  /** On an object for each axis, since 512 calls are not enough for all of them. */
  private static void promise2Places() {
    for (int axis = 0; axis < 3; axis++) {
      int a = axis;
      SpatialPoints p = new SpatialPoints();
      makeUpTo200(p);
      for (int i = 60; i < 200; i++) {
        int id = i;
        int due = axis == 0 ? id % 90 : axis == 1 ? -(id % 80) : id % 7;
        Check.due("2 axis " + a + " of " + id, () -> p.coordinate(id, a), due);
      }
    }
  }

  private static void promise3() {
    SpatialPoints p = new SpatialPoints();
    for (int i = 0; i < 4; i++) {
      p.insert(i, 0, 0, 1, 1);
    }
    Check.missing("3 none", () -> p.remove(4));
    Check.missing("3 negative", () -> p.remove(-1));
    Check.missing("3 far", () -> p.remove(2147483647));
    Check.due("3 first", () -> p.remove(1), 3);
    Check.missing("3 twice", () -> p.remove(1));
    Check.due("3 stays", () -> p.count(1), 1);
    Check.due("3 in the tree", () -> p.depth(1) >= 0, true);
    Check.due("3 half is not more", () -> p.remove(2), 2);
    Check.due("3 both stay", () -> p.count(1), 2);
    Check.due("3 no rebuild", () -> p.rebuilds(1), 0);
    Check.due("3 more than half", () -> p.remove(0), 1);
    Check.due("3 all left", () -> p.count(1), 0);
    Check.due("3 rebuild", () -> p.rebuilds(1), 1);
    Check.due("3 live rebuilt", () -> p.rebuilds(3), 1 + insertionPart());
    Check.due("3 last", () -> p.remove(3), 0);
    Check.due("3 empty", () -> p.height(), 0);
    Check.due("3 rebuild to nothing", () -> p.rebuilds(1), 2);
  }

  /** The live points rebuilt by the four insertions of promise3. */
  private static int insertionPart() {
    SpatialPoints p = new SpatialPoints();
    for (int i = 0; i < 4; i++) {
      p.insert(i, 0, 0, 1, 1);
    }
    return p.rebuilds(3);
  }

  private static void promise4() {
    SpatialPoints p = new SpatialPoints();
    Check.due("4 none", () -> p.isLive(0), false);
    p.insert(0, 0, 0, 1, 1);
    Check.due("4 live", () -> p.isLive(0), true);
    Check.due("4 next", () -> p.isLive(1), false);
    Check.due("4 negative", () -> p.isLive(-1), false);
    Check.due("4 least", () -> p.isLive(-2147483648), false);
    Check.due("4 greatest", () -> p.isLive(2147483647), false);
    p.remove(0);
    Check.due("4 removed", () -> p.isLive(0), false);
  }

  private static void promises5To7() {
    SpatialPoints p = new SpatialPoints();
    p.insert(-7, 8, 100, 99, 9);
    for (int turn = 0; turn < 2; turn++) {
      Check.due("5 x", () -> p.coordinate(0, 0), -7);
      Check.due("5 y", () -> p.coordinate(0, 1), 8);
      Check.due("5 z", () -> p.coordinate(0, 2), 100);
      Check.illegal("5 axis 3", () -> p.coordinate(0, 3));
      Check.illegal("5 axis -1", () -> p.coordinate(0, -1));
      Check.due("6 weight", () -> p.weight(0), 99);
      Check.due("7 tag", () -> p.tag(0), 9);
      if (turn == 0) {
        p.remove(0);
      }
    }
    Check.missing("5 point before axis", () -> p.coordinate(1, 3));
    Check.missing("5 negative", () -> p.coordinate(-1, 0));
    Check.missing("6 none", () -> p.weight(1));
    Check.missing("6 negative", () -> p.weight(-1));
    Check.missing("7 none", () -> p.tag(1));
    Check.missing("7 negative", () -> p.tag(-1));
  }

  private static void promise8() {
    SpatialPoints p = new SpatialPoints();
    p.insert(0, 0, 0, 42, 7);
    Check.due("8 previous", () -> p.label(0, 99, 0), 427);
    Check.due("8 weight", () -> p.weight(0), 99);
    Check.due("8 tag", () -> p.tag(0), 0);
    Check.illegal("8 weight 100", () -> p.label(0, 100, 1));
    Check.illegal("8 weight -1", () -> p.label(0, -1, 1));
    Check.illegal("8 tag 10", () -> p.label(0, 1, 10));
    Check.illegal("8 tag -1", () -> p.label(0, 1, -1));
    Check.missing("8 point first", () -> p.label(1, 100, 10));
    Check.missing("8 negative", () -> p.label(-1, 1, 1));
    Check.due("8 unchanged", () -> p.label(0, 0, 9), 990);
    p.open(0);
    p.remove(0);
    Check.due("8 not live", () -> p.label(0, 5, 5), 9);
    Check.due("8 not live, set", () -> p.label(0, 5, 5), 55);
  }

  private static void promise9() {
    SpatialPoints p = new SpatialPoints();
    Check.due("9 empty", () -> p.shift(200, -200, 200), 0);
    Check.illegal("9 x 201", () -> p.shift(201, 0, 0));
    Check.illegal("9 y -201", () -> p.shift(0, -201, 0));
    Check.illegal("9 z 201", () -> p.shift(0, 0, 201));
    Check.illegal("9 z least", () -> p.shift(0, 0, -2147483648));
    p.insert(-100, 0, 50, 1, 1);
    p.insert(-100, 10, 60, 1, 1);
    p.open(0);
    Check.due("9 far", () -> p.shift(200, 90, -150), 2);
    Check.due("9 cursor stays valid", () -> p.hasNext(), true);
    Check.due("9 x", () -> p.coordinate(0, 0), 100);
    Check.due("9 y", () -> p.coordinate(1, 1), 100);
    Check.due("9 z", () -> p.coordinate(1, 2), -90);
    Check.due("9 bound", () -> p.bound(0, 2, 0), -100);
    Check.badArithmetic("9 x too far", () -> p.shift(1, 0, 0));
    Check.badArithmetic("9 y too far", () -> p.shift(0, 1, 0));
    Check.badArithmetic("9 z too far", () -> p.shift(0, 0, -1));
    Check.illegal("9 range first", () -> p.shift(1, 0, 201));
    Check.due("9 unchanged", () -> p.coordinate(0, 0), 100);
    Check.due("9 none", () -> p.shift(0, 0, 0), 2);
  }

  private static void promise9InTheTreeAlone() {
    SpatialPoints p = new SpatialPoints();
    p.insert(100, 0, 0, 1, 1);
    p.insert(0, 0, 0, 1, 1);
    p.insert(1, 0, 0, 1, 1);
    p.remove(0);
    Check.badArithmetic("9 a removed point in the tree counts", () -> p.shift(1, 0, 0));
    Check.due("9 it moves", () -> p.shift(-1, 2, 3), 3);
    Check.due("9 it moved", () -> p.coordinate(0, 0), 99);
    p.rebuild();
    Check.due("9 it left", () -> p.shift(5, 0, 0), 2);
    Check.due("9 it stays", () -> p.coordinate(0, 0), 99);
    Check.due("9 others moved", () -> p.coordinate(2, 0), 5);
  }
}
