/** Promises 21 to 32: the queries by distance. */
public final class DistanceTest {
  private static final int LEAST = -2147483648;
  private static final int GREATEST = 2147483647;

  public static void main(String[] args) {
    promise21();
    promise22();
    promise23();
    promise24();
    promises25And26();
    promises27And28();
    promise29();
    promise30();
    promises31And32();
    exclusions();
    Check.end();
  }

  private static SpatialPoints at(int[]... places) {
    SpatialPoints p = new SpatialPoints();
    for (int[] place : places) {
      p.insert(place[0], place[1], place[2], 1, 0);
    }
    return p;
  }

  private static void promise21() {
    SpatialPoints p = at(new int[] {0, 0, 0});
    Check.done("21 set", () -> p.query(-100, 100, -100));
    Check.due("21 distance", () -> p.distance(0), 300);
    Check.illegal("21 x", Check.of(() -> p.query(101, 0, 0)));
    Check.illegal("21 y", Check.of(() -> p.query(0, -101, 0)));
    Check.illegal("21 z", Check.of(() -> p.query(0, 0, 101)));
    Check.illegal("21 least", Check.of(() -> p.query(0, 0, LEAST)));
    Check.due("21 unchanged", () -> p.distance(0), 300);
    p.query(1, 0, 0);
    Check.due("21 x set", () -> p.distance(0), 1);
    p.query(0, 2, 3);
    Check.due("21 all set", () -> p.distance(0), 5);
  }

  private static void promise22() {
    SpatialPoints p = new SpatialPoints();
    Check.due("22 first", () -> p.exclude(9, true), false);
    Check.due("22 again", () -> p.exclude(9, true), true);
    Check.due("22 back", () -> p.exclude(9, false), true);
    Check.due("22 not any more", () -> p.exclude(9, false), false);
    Check.due("22 tag 0", () -> p.exclude(0, false), false);
    Check.illegal("22 tag 10", () -> p.exclude(10, true));
    Check.illegal("22 tag -1", () -> p.exclude(-1, true));
  }

  private static void promise23() {
    SpatialPoints p = at(new int[] {-100, -100, -100}, new int[] {1, -2, 3});
    p.query(100, 100, 100);
    int[] far = {600, 200, 120000, 600};
    int[] near = {99 + 102 + 97, 102, 99 * 99 + 102 * 102 + 97 * 97, 99 + 102 + 97};
    for (int metric = 0; metric < 4; metric++) {
      int m = metric;
      p.setOption(2, m);
      Check.due("23 far, metric " + m, () -> p.distance(0), far[m]);
      Check.due("23 near, metric " + m, () -> p.distance(1), near[m]);
    }
    p.setOption(3, 2);
    p.setOption(4, 3);
    p.setOption(5, 9);
    Check.due("23 factors", () -> p.distance(1), 2 * 99 + 3 * 102 + 9 * 97);
    p.remove(0);
    Check.due("23 not live", () -> p.distance(0), 14 * 200);
    Check.missing("23 none", () -> p.distance(2));
    Check.missing("23 negative", () -> p.distance(-1));
    p.setOption(2, 1);
    p.query(1, -2, 3);
    Check.due("23 zero", () -> p.distance(1), 0);
    p.query(1, -3, 1);
    Check.due("23 greatest is z", () -> p.distance(1), 2);
    p.query(4, -3, 1);
    Check.due("23 greatest is x", () -> p.distance(1), 3);
  }

  private static void promise24() {
    SpatialPoints p = at(new int[] {0, 0, 0}, new int[] {-10, -20, -30}, new int[] {10, 20, 30});
    int[][] queries = {
      {5, 5, 5, 0}, {10, -20, 30, 0}, {11, 0, 0, 1}, {-12, 0, 0, 2}, {0, 23, 0, 3},
      {0, -24, 0, 4}, {0, 0, 35, 5}, {0, 0, -36, 6}, {-11, 22, -33, 6}};
    for (int[] q : queries) {
      p.query(q[0], q[1], q[2]);
      Check.due("24 " + q[0] + " " + q[1] + " " + q[2], () -> p.boxDistance(0), q[3]);
    }
    int[] due = {6, 3, 14, 6};
    for (int metric = 0; metric < 4; metric++) {
      int m = metric;
      p.setOption(2, m);
      Check.due("24 metric " + m, () -> p.boxDistance(0), due[m]);
    }
    p.setOption(5, 7);
    Check.due("24 factor", () -> p.boxDistance(0), 1 + 2 + 7 * 3);
    Check.due("24 leaf", () -> p.boxDistance(1), 1 + 42 + 7 * 3);
    Check.missing("24 none", () -> p.boxDistance(3));
    Check.missing("24 negative", () -> p.boxDistance(-1));
    p.remove(1);
    Check.missing("24 no live points", () -> p.boxDistance(1));
    p.rebuild();
    Check.missing("24 left", () -> p.boxDistance(1));
  }

  private static void promises25And26() {
    SpatialPoints p = new SpatialPoints();
    Check.missing("25 empty", () -> p.nearest(0));
    Check.missing("26 empty", () -> p.farthest());
    int[][] places = {{5, 0, 0}, {0, 1, 0}, {0, 0, 5}, {0, -1, 0}, {-5, 0, 0}, {0, 0, 0}};
    for (int[] place : places) {
      p.insert(place[0], place[1], place[2], 1, 0);
    }
    int[] order = {5, 1, 3, 0, 2, 4};
    for (int index = 0; index < 6; index++) {
      int i = index;
      Check.due("25 index " + i, () -> p.nearest(i), order[i]);
    }
    Check.missing("25 index 6", () -> p.nearest(6));
    Check.missing("25 index -1", () -> p.nearest(-1));
    Check.missing("25 greatest", () -> p.nearest(GREATEST));
    Check.due("26 smallest number", () -> p.farthest(), 0);
    p.remove(0);
    Check.due("26 live only", () -> p.farthest(), 2);
    Check.due("25 live only", () -> p.nearest(3), 2);
    Check.missing("25 one fewer", () -> p.nearest(5));
  }

  private static void promises27And28() {
    SpatialPoints p = new SpatialPoints();
    Check.due("27 empty", () -> p.within(GREATEST), 0);
    Check.due("28 empty", () -> p.influence(GREATEST), 0.0);
    p.insert(0, 0, 0, 7, 0);
    p.insert(0, 2, 0, 10, 1);
    p.insert(0, 0, -2, 99, 2);
    p.insert(6, 0, 0, 0, 3);
    Check.due("27 radius 0", () -> p.within(0), 1);
    Check.due("27 radius 1", () -> p.within(1), 1);
    Check.due("27 radius 2", () -> p.within(2), 3);
    Check.due("27 radius 6", () -> p.within(6), 4);
    Check.due("27 greatest", () -> p.within(GREATEST), 4);
    Check.due("27 negative", () -> p.within(-1), 0);
    Check.due("27 least", () -> p.within(LEAST), 0);
    Check.due("28 radius 0", () -> p.influence(0), 7.0);
    Check.due("28 radius 2", () -> p.influence(2), 0.0 + 7.0 / 1.0 + 10.0 / 3.0 + 99.0 / 3.0);
    Check.due("28 negative", () -> p.influence(-1), 0.0);
    Check.due("28 least", () -> p.influence(LEAST), 0.0);
    Check.due("28 greatest", () -> p.influence(GREATEST), 7.0 + 10.0 / 3.0 + 99.0 / 3.0 + 0.0);
    ascendingSum();
  }

  /** The order of the summands tells: from the other end the sum is another double. */
  private static void ascendingSum() {
    SpatialPoints p = new SpatialPoints();
    double up = 0.0;
    double down = 0.0;
    for (int i = 0; i < 30; i++) {
      p.insert(99 - 3 * i, 0, 0, 1 + i, 0);
    }
    for (int i = 0; i < 30; i++) {
      up += (1.0 + i) / (1.0 + Math.abs(99 - 3 * i));
      down += (30.0 - i) / (1.0 + Math.abs(99 - 3 * (29 - i)));
    }
    double due = up;
    Check.due("28 the orders differ", () -> due, up);
    Check.due("28 ascending", () -> p.influence(300), due);
    if (up == down) {
      Check.due("28 a run in which the order tells", () -> false, true);
    }
  }

  private static void promise29() {
    SpatialPoints p = new SpatialPoints();
    Check.missing("29 empty", () -> p.closestPair(0));
    Check.illegal("29 what 3 first", () -> p.closestPair(3));
    p.insert(0, 0, 0, 1, 0);
    Check.missing("29 one", () -> p.closestPair(2));
    Check.illegal("29 what -1", () -> p.closestPair(-1));
    p.insert(50, 0, 0, 1, 0);
    p.insert(-20, 0, 0, 1, 0);
    p.insert(50, 4, 0, 1, 0);
    p.insert(-20, 0, 4, 1, 0);
    p.insert(46, 0, 0, 1, 0);
    int[] due = {1, 3, 4};
    for (int what = 0; what < 3; what++) {
      int w = what;
      Check.due("29 what " + w, () -> p.closestPair(w), due[w]);
    }
    p.remove(3);
    Check.due("29 next i", () -> p.closestPair(0), 1);
    Check.due("29 next j", () -> p.closestPair(1), 5);
    p.remove(1);
    Check.due("29 live only", () -> p.closestPair(0), 2);
    p.setOption(2, 2);
    Check.due("29 metric", () -> p.closestPair(2), 16);
    p.insert(-20, 0, 4, 1, 0);
    Check.due("29 same place", () -> p.closestPair(2), 0);
    Check.due("29 same place, j", () -> p.closestPair(1), 6);
  }

  private static void promise30() {
    SpatialPoints p = new SpatialPoints();
    Check.missing("30 none", () -> p.followers(0));
    p.insert(0, 0, 0, 1, 0);
    Check.due("30 alone", () -> p.followers(0), 0);
    p.insert(2, 0, 0, 1, 0);
    p.insert(4, 0, 0, 1, 0);
    p.insert(7, 0, 0, 1, 0);
    int[] due = {1, 2, 1, 0};
    for (int id = 0; id < 4; id++) {
      int i = id;
      Check.due("30 point " + i, () -> p.followers(i), due[i]);
    }
    Check.missing("30 negative", () -> p.followers(-1));
    Check.missing("30 far", () -> p.followers(4));
    p.remove(0);
    Check.missing("30 removed", () -> p.followers(0));
    Check.due("30 without it", () -> p.followers(2), 2);
  }

  private static void promises31And32() {
    SpatialPoints p = new SpatialPoints();
    Check.due("31 empty", () -> p.clusters(GREATEST), 0);
    Check.missing("32 empty", () -> p.clusterOf(0, 0));
    p.insert(20, 0, 0, 1, 0);
    p.insert(0, 0, 0, 1, 0);
    p.insert(8, 0, 0, 1, 0);
    p.insert(4, 0, 0, 1, 0);
    p.insert(20, 0, 0, 1, 0);
    p.insert(24, 0, 0, 1, 0);
    Check.due("31 radius 4", () -> p.clusters(4), 2);
    Check.due("31 radius 3", () -> p.clusters(3), 5);
    Check.due("31 radius 0", () -> p.clusters(0), 5);
    Check.due("31 radius -1", () -> p.clusters(-1), 6);
    Check.due("31 least", () -> p.clusters(LEAST), 6);
    Check.due("31 radius 12", () -> p.clusters(12), 1);
    Check.due("31 greatest", () -> p.clusters(GREATEST), 1);
    int[] due = {0, 1, 1, 1, 0, 0};
    for (int id = 0; id < 6; id++) {
      int i = id;
      Check.due("32 point " + i, () -> p.clusterOf(i, 4), due[i]);
      Check.due("32 negative radius, point " + i, () -> p.clusterOf(i, -1), i);
      Check.due("32 all in one, point " + i, () -> p.clusterOf(i, GREATEST), 0);
    }
    Check.missing("32 far", () -> p.clusterOf(6, 4));
    Check.missing("32 negative", () -> p.clusterOf(-1, 4));
    p.remove(3);
    Check.due("31 the link is gone", () -> p.clusters(4), 3);
    Check.due("32 the link is gone", () -> p.clusterOf(2, 4), 2);
    Check.missing("32 removed", () -> p.clusterOf(3, 4));
  }

  /** A point with an excluded tag counts nowhere, but is live. */
  private static void exclusions() {
    SpatialPoints p = new SpatialPoints();
    p.insert(0, 0, 0, 5, 4);
    p.insert(1, 0, 0, 6, 1);
    p.insert(2, 0, 0, 7, 4);
    p.insert(9, 0, 0, 8, 4);
    p.exclude(4, true);
    Check.due("22 visible", () -> p.count(3), 1);
    Check.due("22 live", () -> p.isLive(0), true);
    Check.due("25 visible", () -> p.nearest(0), 1);
    Check.missing("25 no more", () -> p.nearest(1));
    Check.due("26 visible", () -> p.farthest(), 1);
    Check.due("27 visible", () -> p.within(100), 1);
    Check.due("28 visible", () -> p.influence(100), 3.0);
    Check.missing("29 visible", () -> p.closestPair(0));
    Check.due("30 visible", () -> p.followers(1), 0);
    Check.missing("30 excluded", () -> p.followers(0));
    Check.due("31 visible", () -> p.clusters(100), 1);
    Check.missing("32 excluded", () -> p.clusterOf(0, 100));
    p.label(3, 8, 2);
    Check.due("22 another tag", () -> p.count(3), 2);
    Check.due("29 two", () -> p.closestPair(1), 3);
    p.exclude(4, false);
    Check.due("22 all again", () -> p.count(3), 4);
  }
}
