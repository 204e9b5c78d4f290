/** Promises 10 to 20: the tree, the options and the rebuilds. */
public final class TreeTest {
  public static void main(String[] args) {
    emptyTree();
    onePoint();
    links();
    removedNodes();
    balanceOption();
    highestUnbalancedNode();
    leftSubtreeAlone();
    sortedOnEachAxis();
    samePlaces();
    removalOption();
    promise16();
    promise17();
    promise18();
    promises19And20();
    Check.end();
  }

  private static SpatialPoints line(int number) {
    SpatialPoints p = new SpatialPoints();
    for (int i = 0; i < number; i++) {
      p.insert(i, i, i, 1, 0);
    }
    return p;
  }

  private static void emptyTree() {
    SpatialPoints p = new SpatialPoints();
    Check.missing("10 empty", () -> p.root());
    Check.missing("11 empty, before side", () -> p.child(0, 2));
    Check.missing("12 empty", () -> p.parent(0));
    Check.missing("13 empty", () -> p.depth(0));
    Check.due("14 empty", () -> p.height(), 0);
    Check.missing("15 empty, before what", () -> p.subtree(0, 2));
    Check.missing("17 empty, before axis", () -> p.bound(0, 3, 2));
  }

  /** At the ends of the range, so that a box that is still empty must lie beyond them. */
  private static void onePoint() {
    for (int end = -100; end <= 100; end += 200) {
      SpatialPoints p = new SpatialPoints();
      int e = end;
      p.insert(e, e, e, 1, 0);
      Check.due("10 one", () -> p.root(), 0);
      Check.due("12 one", () -> p.parent(0), -1);
      Check.due("13 one", () -> p.depth(0), 0);
      Check.due("14 one", () -> p.height(), 1);
      for (int axis = 0; axis < 3; axis++) {
        int a = axis;
        Check.due("17 one, least", () -> p.bound(0, a, 0), e);
        Check.due("17 one, greatest", () -> p.bound(0, a, 1), e);
      }
    }
  }

  /** The axis changes with the depth, and equal coordinates are decided by the number. */
  private static void links() {
    SpatialPoints p = new SpatialPoints();
    p.setOption(0, 95);
    p.insert(0, 0, 0, 1, 0);
    p.insert(0, 5, 0, 1, 0);
    p.insert(-1, 0, 0, 1, 0);
    p.insert(3, 4, 0, 1, 0);
    p.insert(3, 5, 0, 1, 0);
    p.insert(4, 4, -1, 1, 0);
    p.insert(4, 4, 0, 1, 0);
    Check.due("10 root", () -> p.root(), 0);
    int[][] due = {
      {0, 2, 1, -1, 0, 7}, {1, 3, 4, 0, 1, 5}, {2, -1, -1, 0, 1, 1}, {3, 5, 6, 1, 2, 3},
      {4, -1, -1, 1, 2, 1}, {5, -1, -1, 3, 3, 1}, {6, -1, -1, 3, 3, 1}};
    for (int[] d : due) {
      Check.due("11 left of " + d[0], () -> p.child(d[0], 0), d[1]);
      Check.due("11 right of " + d[0], () -> p.child(d[0], 1), d[2]);
      Check.due("12 parent of " + d[0], () -> p.parent(d[0]), d[3]);
      Check.due("13 depth of " + d[0], () -> p.depth(d[0]), d[4]);
      Check.due("15 size of " + d[0], () -> p.subtree(d[0], 0), d[5]);
      Check.due("15 live size of " + d[0], () -> p.subtree(d[0], 1), d[5]);
    }
    Check.due("14 height", () -> p.height(), 4);
    Check.illegal("11 side 2", () -> p.child(0, 2));
    Check.illegal("11 side -1", () -> p.child(0, -1));
    Check.illegal("15 what 2", () -> p.subtree(0, 2));
    Check.illegal("15 what -1", () -> p.subtree(0, -1));
    Check.missing("11 none", () -> p.child(7, 0));
    Check.missing("11 negative", () -> p.child(-1, 0));
    Check.missing("12 none", () -> p.parent(7));
    Check.missing("12 negative", () -> p.parent(-1));
    Check.missing("13 none", () -> p.depth(7));
    Check.missing("13 far", () -> p.depth(2147483647));
    Check.missing("15 none", () -> p.subtree(7, 0));
    Check.missing("15 least", () -> p.subtree(-2147483648, 0));
  }

  private static void removedNodes() {
    SpatialPoints p = line(3);
    p.remove(0);
    Check.due("10 removed root", () -> p.root(), 0);
    Check.due("11 right", () -> p.child(0, 1), 1);
    Check.due("12 parent", () -> p.parent(1), 0);
    Check.due("13 depth", () -> p.depth(0), 0);
    Check.due("14 height", () -> p.height(), 3);
    Check.due("15 all", () -> p.subtree(0, 0), 3);
    Check.due("15 live", () -> p.subtree(0, 1), 2);
    p.rebuild();
    Check.due("10 left", () -> p.root(), 2);
    Check.missing("11 left", () -> p.child(0, 0));
    Check.missing("12 left", () -> p.parent(0));
    Check.missing("13 left", () -> p.depth(0));
    Check.missing("15 left", () -> p.subtree(0, 0));
    Check.missing("17 left", () -> p.bound(0, 0, 0));
    Check.due("14 after", () -> p.height(), 2);
  }

  /** With 3 of 4 nodes on a side, 75 is not exceeded and 74 is. */
  private static void balanceOption() {
    SpatialPoints kept = new SpatialPoints();
    kept.setOption(0, 75);
    SpatialPoints rebuilt = new SpatialPoints();
    rebuilt.setOption(0, 74);
    for (SpatialPoints p : new SpatialPoints[] {kept, rebuilt}) {
      p.insert(0, 0, 0, 1, 0);
      p.insert(5, 0, 0, 1, 0);
      p.insert(6, -1, 0, 1, 0);
      p.insert(7, 1, 0, 1, 0);
    }
    Check.due("2 not greater", () -> kept.rebuilds(0), 0);
    Check.due("2 root kept", () -> kept.root(), 0);
    Check.due("2 greater", () -> rebuilt.rebuilds(0), 1);
    Check.due("2 middle of 4", () -> rebuilt.root(), 2);
    Check.due("2 left of two", () -> rebuilt.child(2, 0), 1);
    Check.due("2 left of left", () -> rebuilt.child(1, 0), 0);
    Check.due("2 right", () -> rebuilt.child(2, 1), 3);
    Check.due("20 all four", () -> rebuilt.rebuilds(3), 4);
  }

  private static void highestUnbalancedNode() {
    SpatialPoints p = new SpatialPoints();
    p.setOption(0, 95);
    p.insert(0, 0, 0, 1, 0);
    p.insert(-1, 0, 0, 1, 0);
    p.insert(1, 0, 0, 1, 0);
    p.insert(2, 1, 0, 1, 0);
    p.insert(-2, 1, 0, 1, 0);
    p.remove(4);
    p.setOption(0, 55);
    Check.due("18 the tree stays", () -> p.rebuilds(0), 0);
    p.insert(3, 2, 5, 1, 0);
    Check.due("2 below the root", () -> p.root(), 0);
    Check.due("2 the middle on axis 1", () -> p.child(0, 1), 3);
    Check.due("2 its left", () -> p.child(3, 0), 2);
    Check.due("2 its right", () -> p.child(3, 1), 5);
    Check.due("2 the removed one elsewhere stays", () -> p.count(1), 1);
    Check.due("20 three", () -> p.rebuilds(3), 3);
    p.insert(4, 9, 9, 1, 0);
    Check.due("2 the root first", () -> p.rebuilds(3), 3 + 6);
    Check.due("2 now it left", () -> p.count(1), 0);
    Check.due("2 the new root", () -> p.root(), 3);
  }

  private static void tree(String what, SpatialPoints p, int[][] due) {
    for (int[] d : due) {
      Check.due(what + ": left of " + d[0], () -> p.child(d[0], 0), d[1]);
      Check.due(what + ": right of " + d[0], () -> p.child(d[0], 1), d[2]);
    }
  }

  private static void leftSubtreeAlone() {
    SpatialPoints p = new SpatialPoints();
    p.insert(0, 0, 0, 1, 0);
    p.insert(-1, 0, 0, 1, 0);
    p.insert(1, 0, 0, 1, 0);
    p.insert(-2, -1, 0, 1, 0);
    p.insert(2, -1, 0, 1, 0);
    p.setOption(0, 60);
    p.insert(-3, -2, -5, 1, 0);
    Check.due("2 one rebuild", () -> p.rebuilds(0), 1);
    Check.due("20 of three", () -> p.rebuilds(3), 3);
    tree("2 the left subtree", p, new int[][] {{0, 3, 2}, {3, 5, 1}, {5, -1, -1}, {1, -1, -1},
        {2, 4, -1}, {4, -1, -1}});
    p.insert(-4, -3, 0, 1, 0);
    p.insert(-5, -4, 0, 1, 0);
    Check.due("2 the left one is the greater", () -> p.rebuilds(3), 3 + 8);
    Check.due("2 the whole tree", () -> p.root(), 1);
  }

  /** On each axis the points stand in another order. */
  private static void sortedOnEachAxis() {
    SpatialPoints p = new SpatialPoints();
    p.setOption(0, 95);
    int[][] places = {{6, 1, 3}, {2, 6, 2}, {4, 3, 6}, {7, 4, 1}, {1, 2, 5}, {5, 7, 4}, {3, 5, 7}};
    for (int[] place : places) {
      p.insert(place[0], place[1], place[2], 1, 0);
    }
    p.rebuild();
    Check.due("19 root", () -> p.root(), 2);
    tree("19 seven", p, new int[][] {{2, 6, 3}, {6, 4, 1}, {3, 0, 5}, {4, -1, -1}, {1, -1, -1},
        {0, -1, -1}, {5, -1, -1}});
    SpatialPoints q = new SpatialPoints();
    int[][] twelve = {{0, 0, 12}, {1, 0, 11}, {2, 0, 10}, {3, 0, 9}, {4, 0, 8}, {5, 0, 7}};
    for (int[] place : twelve) {
      q.insert(place[0], place[1], place[2], 1, 0);
    }
    q.rebuild();
    Check.due("19 root of six", () -> q.root(), 3);
    tree("19 six", q, new int[][] {{3, 1, 5}, {1, 0, 2}, {5, 4, -1}});
    SpatialPoints r = new SpatialPoints();
    for (int i = 0; i < 14; i++) {
      r.insert(i < 7 ? 1 : 2, i % 7 < 3 ? 1 : 2, -i, 1, 0);
    }
    r.rebuild();
    Check.due("19 root of fourteen", () -> r.root(), 7);
    tree("19 axis 2", r, new int[][] {{7, 3, 11}, {3, 1, 5}, {1, 2, 0}, {5, 6, 4}, {11, 9, 12},
        {9, 10, 8}, {12, 13, -1}});
  }

  /** Equal coordinates are ordered by the numbers, in whatever order the tree holds them. */
  private static void samePlaces() {
    SpatialPoints p = new SpatialPoints();
    p.insert(5, 5, 5, 1, 0);
    for (int i = 1; i < 12; i++) {
      p.insert(0, 0, 0, 1, 0);
    }
    p.rebuild();
    Check.due("19 equal, root", () -> p.root(), 7);
    tree("19 equal", p, new int[][] {{7, 4, 10}, {4, 2, 6}, {2, 1, 3}, {6, 5, -1}, {10, 9, 0},
        {9, 8, -1}, {0, 11, -1}});
  }

  private static void removalOption() {
    SpatialPoints kept = line(10);
    kept.setOption(1, 10);
    kept.rebuild();
    kept.remove(3);
    Check.due("3 not more than 10", () -> kept.count(1), 1);
    kept.remove(4);
    Check.due("3 more than 10", () -> kept.count(1), 0);
    Check.due("20 after removals", () -> kept.rebuilds(1), 1);
    SpatialPoints lazy = line(10);
    lazy.setOption(1, 90);
    for (int i = 0; i < 9; i++) {
      lazy.remove(i);
    }
    Check.due("3 not more than 90", () -> lazy.count(1), 9);
    Check.due("3 the last", () -> lazy.remove(9), 0);
    Check.due("3 none left", () -> lazy.count(1), 0);
  }

  private static void promise16() {
    SpatialPoints p = line(5);
    p.label(1, 0, 3);
    p.label(2, 0, 3);
    p.exclude(3, true);
    p.remove(1);
    Check.due("16 live", () -> p.count(0), 4);
    Check.due("16 removed", () -> p.count(1), 1);
    Check.due("16 created", () -> p.count(2), 5);
    Check.due("16 visible", () -> p.count(3), 3);
    Check.illegal("16 what 4", () -> p.count(4));
    Check.illegal("16 what -1", () -> p.count(-1));
    p.rebuild();
    Check.due("16 removed after", () -> p.count(1), 0);
    Check.due("16 created after", () -> p.count(2), 5);
  }

  private static void promise17() {
    SpatialPoints p = new SpatialPoints();
    p.insert(0, 1, 2, 1, 0);
    p.insert(-50, 7, -9, 1, 4);
    p.insert(60, -8, 10, 1, 0);
    p.exclude(4, true);
    int[][] due = {{-50, 60}, {-8, 7}, {-9, 10}};
    for (int axis = 0; axis < 3; axis++) {
      int a = axis;
      Check.due("17 least on " + a, () -> p.bound(0, a, 0), due[a][0]);
      Check.due("17 greatest on " + a, () -> p.bound(0, a, 1), due[a][1]);
    }
    Check.due("17 leaf", () -> p.bound(1, 2, 1), -9);
    Check.illegal("17 axis 3", () -> p.bound(0, 3, 0));
    Check.illegal("17 axis -1", () -> p.bound(0, -1, 0));
    Check.illegal("17 side 2", () -> p.bound(0, 0, 2));
    Check.illegal("17 side -1", () -> p.bound(0, 0, -1));
    Check.missing("17 none", () -> p.bound(3, 0, 0));
    Check.missing("17 negative", () -> p.bound(-1, 0, 0));
    p.remove(1);
    Check.due("17 only live points", () -> p.bound(0, 0, 0), 0);
    Check.missing("17 no live points", () -> p.bound(1, 0, 0));
    Check.missing("17 no live points before axis", () -> p.bound(1, 3, 2));
    p.shift(1, 2, 3);
    Check.due("17 shifted", () -> p.bound(0, 1, 0), -6);
  }

  private static void promise18() {
    SpatialPoints p = new SpatialPoints();
    int[] least = {55, 10, 0, 1, 1, 1};
    int[] greatest = {95, 90, 3, 9, 9, 9};
    int[] first = {70, 50, 0, 1, 1, 1};
    for (int option = 0; option < 6; option++) {
      int o = option;
      Check.illegal("18 below " + o, () -> p.setOption(o, least[o] - 1));
      Check.illegal("18 above " + o, () -> p.setOption(o, greatest[o] + 1));
      Check.illegal("18 far above " + o, () -> p.setOption(o, 2147483647));
      Check.due("18 least " + o, () -> p.setOption(o, least[o]), first[o]);
      Check.due("18 greatest " + o, () -> p.setOption(o, greatest[o]), least[o]);
      Check.due("18 again " + o, () -> p.setOption(o, greatest[o]), greatest[o]);
    }
    Check.badIndex("18 option 6", () -> p.setOption(6, -1));
    Check.badIndex("18 option -1", () -> p.setOption(-1, 70));
  }

  private static void promises19And20() {
    SpatialPoints p = line(2);
    Check.due("19 nothing leaves", () -> p.rebuild(), 0);
    Check.due("20 two", () -> p.rebuilds(3), 2);
    p.insert(9, 9, 9, 1, 0);
    p.insert(10, 10, 10, 1, 0);
    p.insert(8, 8, 8, 1, 0);
    int before = p.rebuilds(3);
    p.remove(0);
    p.remove(3);
    p.open(0);
    Check.due("19 two leave", () -> p.rebuild(), 2);
    Check.badState("19 cursor", () -> p.hasNext());
    Check.due("20 by call", () -> p.rebuilds(2), 2);
    Check.due("20 points", () -> p.rebuilds(3), before + 3);
    Check.due("20 no removals", () -> p.rebuilds(1), 0);
    Check.illegal("20 what 4", () -> p.rebuilds(4));
    Check.illegal("20 what -1", () -> p.rebuilds(-1));
    SpatialPoints empty = new SpatialPoints();
    Check.due("19 empty", () -> empty.rebuild(), 0);
    Check.due("20 empty counts", () -> empty.rebuilds(2), 1);
    Check.due("20 empty points", () -> empty.rebuilds(3), 0);
  }
}
