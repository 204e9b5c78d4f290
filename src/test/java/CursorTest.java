/** Promises 39 to 41: the cursor. */
public final class CursorTest {
  public static void main(String[] args) {
    notOpen();
    orders();
    removedPoints();
    staysValid();
    becomesInvalid();
    Check.end();
  }

  /** A tree of seven points: 3 above 1 and 5, these above 0, 2, 4 and 6, mirrored by number. */
  private static SpatialPoints sample() {
    SpatialPoints p = new SpatialPoints();
    p.insert(0, 0, 0, 1, 0);
    p.insert(-1, 0, 0, 1, 0);
    p.insert(1, 0, 0, 1, 0);
    p.insert(-1, -1, 0, 1, 0);
    p.insert(2, 1, 0, 1, 0);
    p.insert(-2, 3, 0, 1, 0);
    p.insert(3, -3, 0, 1, 0);
    return p;
  }

  private static void notOpen() {
    SpatialPoints p = sample();
    Check.badState("40 not open", () -> p.hasNext());
    Check.badState("41 not open", () -> p.next());
    Check.illegal("39 order 3", () -> p.open(3));
    Check.illegal("39 order -1", () -> p.open(-1));
    Check.badState("40 still not open", () -> p.hasNext());
    SpatialPoints none = new SpatialPoints();
    Check.due("39 empty", () -> none.open(2), 0);
    Check.due("40 empty", () -> none.hasNext(), false);
    Check.missing("41 empty", () -> none.next());
  }

  private static void orders() {
    SpatialPoints p = sample();
    int[][] due = {{0, 1, 3, 5, 2, 6, 4}, {3, 1, 5, 0, 6, 2, 4}, {0, 1, 2, 3, 5, 6, 4}};
    for (int order = 0; order < 3; order++) {
      goThrough(p, order, due[order]);
    }
    p.open(0);
    p.next();
    p.open(1);
    Check.due("39 in place of the earlier", () -> p.next(), 3);
    Check.illegal("39 wrong order", () -> p.open(3));
    Check.due("39 the earlier goes on", () -> p.next(), 1);
  }

  private static void goThrough(SpatialPoints p, int order, int[] due) {
    Check.due("39 order " + order, () -> p.open(order), due.length);
    for (int id : due) {
      Check.due("40 before " + id, () -> p.hasNext(), true);
      Check.due("41 order " + order, () -> p.next(), id);
    }
    Check.due("40 at the end", () -> p.hasNext(), false);
    Check.missing("41 at the end", () -> p.next());
    Check.due("40 still at the end", () -> p.hasNext(), false);
    Check.missing("41 still at the end", () -> p.next());
  }

  private static void removedPoints() {
    SpatialPoints p = sample();
    p.remove(0);
    p.remove(1);
    p.exclude(0, true);
    goThrough(p, 0, new int[] {3, 5, 2, 6, 4});
    goThrough(p, 1, new int[] {3, 5, 6, 2, 4});
    goThrough(p, 2, new int[] {2, 3, 5, 6, 4});
  }

  private static void staysValid() {
    SpatialPoints p = sample();
    p.save();
    p.open(0);
    p.next();
    p.save();
    p.label(0, 5, 5);
    p.shift(1, 1, 1);
    p.setOption(0, 55);
    p.exclude(5, true);
    p.query(1, 1, 1);
    p.corner(0, 1, 1, 1);
    Check.write(p, "0,0,0;");
    Check.illegal("43 a fault", () -> p.read());
    Check.illegal("2 wrong", () -> p.insert(101, 0, 0, 1, 0));
    Check.missing("3 wrong", () -> p.remove(7));
    Check.due("41 still valid", () -> p.next(), 1);
  }

  private static void becomesInvalid() {
    SpatialPoints p = sample();
    p.save();
    Check.Act[] acts = {() -> p.insert(9, 9, 9, 1, 0), () -> p.remove(7), () -> p.rebuild(),
        () -> p.restore(), () -> readOne(p)};
    for (int i = 0; i < acts.length; i++) {
      p.open(0);
      p.next();
      acts[i].run();
      Check.badState("40 invalid " + i, () -> p.hasNext());
      Check.badState("41 invalid " + i, () -> p.next());
    }
    SpatialPoints none = new SpatialPoints();
    none.open(0);
    Check.badState("46 no snapshot", Check.of(() -> none.restore()));
    Check.due("40 valid after it", () -> none.hasNext(), false);
    none.rebuild();
    Check.badState("40 the empty tree rebuilt", () -> none.hasNext());
  }

  private static void readOne(SpatialPoints p) {
    Check.write(p, "1,2,3");
    p.read();
  }
}
