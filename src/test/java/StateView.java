/** What can be seen of an object by calls that change nothing but the cursor. */
final class StateView {
  private StateView() {
  }

  static String of(SpatialPoints p) {
    StringBuilder view = new StringBuilder();
    for (int what = 0; what < 4; what++) {
      int w = what;
      add(view, () -> p.count(w));
      add(view, () -> p.rebuilds(w));
    }
    add(view, () -> p.height());
    add(view, () -> p.root());
    for (int id = -1; id <= p.count(2); id++) {
      addPoint(view, p, id);
    }
    addQueries(view, p);
    return view.toString();
  }

  private static void add(StringBuilder view, Check.Call call) {
    view.append(Check.answer(call)).append(' ');
  }

  private static void addPoint(StringBuilder view, SpatialPoints p, int id) {
    view.append("| ");
    add(view, () -> p.isLive(id));
    add(view, () -> p.weight(id));
    add(view, () -> p.tag(id));
    add(view, () -> p.parent(id));
    add(view, () -> p.depth(id));
    add(view, () -> p.distance(id));
    add(view, () -> p.boxDistance(id));
    add(view, () -> p.followers(id));
    add(view, () -> p.clusterOf(id, 10));
    for (int axis = 0; axis < 3; axis++) {
      int a = axis;
      add(view, () -> p.coordinate(id, a));
      add(view, () -> p.bound(id, a, 0));
      add(view, () -> p.bound(id, a, 1));
    }
    for (int side = 0; side < 2; side++) {
      int s = side;
      add(view, () -> p.child(id, s));
      add(view, () -> p.subtree(id, s));
    }
  }

  private static void addQueries(StringBuilder view, SpatialPoints p) {
    view.append("| ");
    add(view, () -> p.farthest());
    add(view, () -> p.within(20));
    add(view, () -> p.influence(20));
    add(view, () -> p.clusters(5));
    add(view, () -> p.inBox());
    add(view, () -> p.boxWeight());
    add(view, () -> p.visits());
    for (int i = 0; i < 3; i++) {
      int index = i;
      add(view, () -> p.nearest(index));
      add(view, () -> p.boxPoint(index));
      add(view, () -> p.closestPair(index));
      add(view, () -> p.center(index));
    }
  }
}
