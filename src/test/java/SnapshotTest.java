/** Promises 45 and 46: the snapshot. */
public final class SnapshotTest {
  public static void main(String[] args) {
    noSnapshot();
    everything();
    box();
    structure();
    notSaved();
    inPlaceOfAnEarlier();
    Check.end();
  }

  private static void noSnapshot() {
    SpatialPoints p = new SpatialPoints();
    p.insert(1, 2, 3, 4, 5);
    p.open(0);
    Check.badState("46 none", Check.of(() -> p.restore()));
    Check.due("46 unchanged", () -> p.count(0), 1);
    Check.due("46 cursor stays", () -> p.next(), 0);
  }

  private static SpatialPoints sample() {
    SpatialPoints p = new SpatialPoints();
    for (int i = 0; i < 8; i++) {
      p.insert(i, 3 * i % 7, -i, 10 + i, i);
    }
    p.setOption(0, 80);
    p.setOption(1, 60);
    p.setOption(2, 3);
    p.setOption(3, 4);
    p.setOption(4, 5);
    p.setOption(5, 6);
    p.query(1, 2, 3);
    p.corner(0, -1, -2, -50);
    p.corner(1, 4, 5, 6);
    p.exclude(2, true);
    p.remove(0);
    p.remove(1);
    p.remove(2);
    p.rebuild();
    p.remove(5);
    return p;
  }

  private static void change(SpatialPoints p) {
    p.shift(1, 1, 1);
    p.label(3, 0, 0);
    p.label(0, 0, 0);
    p.remove(3);
    p.remove(4);
    p.insert(50, 50, 50, 1, 1);
    p.insert(51, 50, 50, 1, 1);
    p.insert(52, 50, 50, 1, 1);
    p.rebuild();
    p.setOption(0, 55);
    p.setOption(1, 10);
    p.setOption(2, 1);
    p.setOption(3, 1);
    p.setOption(4, 1);
    p.setOption(5, 1);
    p.query(-9, -9, -9);
    p.corner(0, -90, -90, -90);
    p.corner(1, 90, 90, 90);
    p.exclude(2, false);
    p.exclude(7, true);
    p.remove(6);
  }

  private static void everything() {
    SpatialPoints p = sample();
    String before = StateView.of(p);
    p.save();
    Check.due("45 changes nothing", () -> StateView.of(p), before);
    for (int turn = 0; turn < 2; turn++) {
      change(p);
      p.open(0);
      if (StateView.of(p).equals(before)) {
        Check.due("46 a change that tells", () -> false, true);
      }
      p.open(0);
      p.restore();
      Check.badState("46 cursor", () -> p.hasNext());
      Check.due("46 everything", () -> StateView.of(p), before);
      options(p);
      p.restore();
    }
    Check.due("46 the next number", () -> p.insert(0, 0, 0, 0, 0), 8);
    Check.missing("46 the others are gone", () -> p.weight(9));
  }

  private static void options(SpatialPoints p) {
    int[] due = {80, 60, 3, 4, 5, 6};
    for (int option = 0; option < 6; option++) {
      int o = option;
      Check.due("46 option " + o, () -> p.setOption(o, due[o]), due[o]);
    }
    for (int tag = 0; tag < 10; tag++) {
      int t = tag;
      Check.due("46 tag " + t, () -> p.exclude(t, t == 2), t == 2);
    }
  }

  private static void box() {
    SpatialPoints p = new SpatialPoints();
    p.insert(3, 3, 3, 1, 0);
    p.insert(7, 7, 7, 1, 0);
    p.corner(0, 5, 5, 5);
    p.corner(1, 9, 9, 9);
    p.save();
    p.corner(0, 0, 0, 0);
    p.restore();
    Check.due("46 lower corner", () -> p.inBox(), 1);
    p.corner(1, 6, 6, 6);
    p.restore();
    Check.due("46 upper corner", () -> p.inBox(), 1);
  }

  /** The same points in another tree. */
  private static void structure() {
    SpatialPoints p = new SpatialPoints();
    p.setOption(0, 95);
    for (int i = 0; i < 10; i++) {
      p.insert(i, -i, 3 * i % 10, 1, 0);
    }
    String before = StateView.of(p);
    p.save();
    p.rebuild();
    Check.due("46 another root", () -> p.root(), 5);
    p.restore();
    Check.due("46 the earlier tree", () -> StateView.of(p), before);
  }

  private static void notSaved() {
    SpatialPoints p = new SpatialPoints();
    p.insert(0, 0, 0, 1, 0);
    p.open(0);
    p.save();
    Check.due("45 cursor stays", () -> p.next(), 0);
    Check.write(p, "1,2x");
    Check.illegal("43 fault", () -> p.read());
    Check.write(p, "4,5,");
    p.restore();
    Check.due("46 fault position stays", () -> p.faultPosition(), 3);
    Check.write(p, "6");
    Check.due("46 text buffer stays", () -> p.read(), 1);
    Check.due("46 z", () -> p.coordinate(1, 2), 6);
    p.open(0);
    p.restore();
    Check.badState("46 the cursor becomes invalid", () -> p.next());
  }

  private static void inPlaceOfAnEarlier() {
    SpatialPoints p = new SpatialPoints();
    p.save();
    p.insert(0, 0, 0, 1, 0);
    p.save();
    p.insert(1, 0, 0, 1, 0);
    p.restore();
    Check.due("46 the later one", () -> p.count(2), 1);
    p.insert(2, 0, 0, 1, 0);
    p.restore();
    Check.due("46 it is kept", () -> p.count(2), 1);
    SpatialPoints q = new SpatialPoints();
    q.save();
    q.insert(0, 0, 0, 1, 0);
    q.restore();
    Check.due("46 empty", () -> q.height(), 0);
    Check.missing("46 no root", () -> q.root());
    Check.due("46 from 0", () -> q.insert(0, 0, 0, 1, 0), 0);
  }
}
