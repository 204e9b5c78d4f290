import java.util.Arrays;
import java.util.NoSuchElementException;

/** A k-d tree of weighted and tagged points in three dimensions. */
public final class SpatialPoints {
  private static final int NONE = -1;
  private static final int AXES = 3;
  private static final int MAX_COORDINATE = 100;
  private static final int MAX_SHIFT = 200;
  private static final int MAX_WEIGHT = 99;
  private static final int MAX_TAG = 9;
  private static final int MAX_LIVE = 60;
  private static final int MAX_CREATED = 200;
  private static final int MAX_TEXT = 90;

  private static final int BALANCE_OPTION = 0;
  private static final int REMOVAL_OPTION = 1;
  private static final int METRIC_OPTION = 2;
  private static final int FACTOR_OPTION = 3;
  private static final int OPTIONS = 6;
  private static final int[] FIRST_VALUES = {70, 50, 0, 1, 1, 1};
  private static final int[] LEAST_VALUES = {55, 10, 0, 1, 1, 1};
  private static final int[] GREATEST_VALUES = {95, 90, 3, 9, 9, 9};

  private static final int AFTER_INSERTION = 0;
  private static final int AFTER_REMOVAL = 1;
  private static final int BY_CALL = 2;
  private static final int POINTS_REBUILT = 3;
  private static final int STATISTICS = 4;

  private static final int PREORDER = 0;
  private static final int INORDER = 1;
  private static final int LEVEL_ORDER = 2;

  private final State state = new State();
  private final State snapshot = new State();
  private final Search search = new Search(state);
  private final Cursor cursor = new Cursor(state.tree);
  private final Text text = new Text();
  private boolean saved = false;

  public SpatialPoints() {
  }

  // ---------------------------------------------------------------- points

  public int insert(int x, int y, int z, int weight, int tag)
      throws IllegalArgumentException, IllegalStateException {
    if (!isPlace(x, y, z) || !isLabel(weight, tag)) {
      throw new IllegalArgumentException("an argument is out of range");
    }
    if (!state.points.hasRoomFor(1)) {
      throw new IllegalStateException("no further point is possible");
    }
    cursor.invalidate();
    return state.createPoint(x, y, z, weight, tag);
  }

  public int remove(int id) throws NoSuchElementException {
    if (!state.points.isAlive(id)) {
      throw new NoSuchElementException("there is no such live point");
    }
    cursor.invalidate();
    state.removePoint(id);
    return state.points.liveCount;
  }

  public boolean isLive(int id) {
    return state.points.isAlive(id);
  }

  public int coordinate(int id, int axis) throws NoSuchElementException, IllegalArgumentException {
    requirePoint(id);
    requireAxis(axis);
    return state.points.coordinateOf(id, axis);
  }

  public int weight(int id) throws NoSuchElementException {
    requirePoint(id);
    return valueAt(state.points.weights, id);
  }

  public int tag(int id) throws NoSuchElementException {
    requirePoint(id);
    return valueAt(state.points.tags, id);
  }

  public int label(int id, int weight, int tag)
      throws NoSuchElementException, IllegalArgumentException {
    requirePoint(id);
    if (!isLabel(weight, tag)) {
      throw new IllegalArgumentException("weight or tag is out of range");
    }
    int previous = 10 * valueAt(state.points.weights, id) + valueAt(state.points.tags, id);
    put(state.points.weights, id, weight);
    put(state.points.tags, id, tag);
    return previous;
  }

  public int shift(int dx, int dy, int dz) throws IllegalArgumentException, ArithmeticException {
    if (!isWithin(dx, MAX_SHIFT) || !isWithin(dy, MAX_SHIFT) || !isWithin(dz, MAX_SHIFT)) {
      throw new IllegalArgumentException("a shift is out of range");
    }
    if (!state.tree.canMove(dx, dy, dz)) {
      throw new ArithmeticException("a coordinate would be out of range");
    }
    state.tree.move(dx, dy, dz);
    return state.tree.preorder.count;
  }

  // ------------------------------------------------------------------ tree

  public int root() throws NoSuchElementException {
    if (state.tree.top == NONE) {
      throw new NoSuchElementException("the tree is empty");
    }
    return state.tree.top;
  }

  public int child(int id, int side) throws NoSuchElementException, IllegalArgumentException {
    requireNode(id);
    if (side != 0 && side != 1) {
      throw new IllegalArgumentException("there is no such side");
    }
    return state.tree.childOf(id, side);
  }

  public int parent(int id) throws NoSuchElementException {
    requireNode(id);
    return valueAt(state.tree.parents, id);
  }

  public int depth(int id) throws NoSuchElementException {
    requireNode(id);
    return valueAt(state.tree.depths, id);
  }

  public int height() {
    return state.tree.greatestDepth() + 1;
  }

  public int subtree(int id, int what) throws NoSuchElementException, IllegalArgumentException {
    requireNode(id);
    if (what != 0 && what != 1) {
      throw new IllegalArgumentException("there is no such size");
    }
    return what == 0 ? state.tree.sizeOf(id) : state.tree.liveSizeOf(id);
  }

  public int count(int what) throws IllegalArgumentException {
    switch (what) {
      case 0:
        return state.points.liveCount;
      case 1:
        return state.tree.preorder.count - state.points.liveCount;
      case 2:
        return state.points.created;
      case 3:
        return search.countVisible();
      default:
        throw new IllegalArgumentException("there is no such number");
    }
  }

  public int bound(int id, int axis, int side)
      throws NoSuchElementException, IllegalArgumentException {
    requireBox(id);
    requireAxis(axis);
    if (side != 0 && side != 1) {
      throw new IllegalArgumentException("there is no such side");
    }
    return side == 0 ? state.tree.lowOf(id, axis) : state.tree.highOf(id, axis);
  }

  public int setOption(int option, int value)
      throws IndexOutOfBoundsException, IllegalArgumentException {
    if (option < 0 || option >= OPTIONS) {
      throw new IndexOutOfBoundsException("there is no such option");
    }
    if (value < valueAt(LEAST_VALUES, option) || value > valueAt(GREATEST_VALUES, option)) {
      throw new IllegalArgumentException("the value is out of range");
    }
    int previous = state.settings.optionValue(option);
    put(state.settings.options, option, value);
    return previous;
  }

  public int rebuild() {
    cursor.invalidate();
    int before = state.tree.preorder.count;
    state.rebuilder.rebuildAt(state.tree.top, BY_CALL);
    return before - state.tree.preorder.count;
  }

  public int rebuilds(int what) throws IllegalArgumentException {
    if (what < 0 || what >= STATISTICS) {
      throw new IllegalArgumentException("there is no such statistic");
    }
    return valueAt(state.rebuilder.statistics, what);
  }

  // --------------------------------------------------- queries by distance

  public void query(int x, int y, int z) throws IllegalArgumentException {
    if (!isPlace(x, y, z)) {
      throw new IllegalArgumentException("a coordinate is out of range");
    }
    putPlace(state.settings.queryPoint, x, y, z);
  }

  public boolean exclude(int tag, boolean excluded) throws IllegalArgumentException {
    if (tag < 0 || tag > MAX_TAG) {
      throw new IllegalArgumentException("there is no such tag");
    }
    boolean before = state.settings.isExcluded(tag);
    put(state.settings.exclusions, tag, excluded ? 1 : 0);
    return before;
  }

  public int distance(int id) throws NoSuchElementException {
    requirePoint(id);
    return search.fromQuery(id);
  }

  public int boxDistance(int id) throws NoSuchElementException {
    requireBox(id);
    return search.fromQueryToBox(id);
  }

  public int nearest(int index) throws NoSuchElementException {
    int id = search.nearestAt(index);
    if (id == NONE) {
      throw new NoSuchElementException("there is no such index");
    }
    return id;
  }

  public int farthest() throws NoSuchElementException {
    int id = search.farthestPoint();
    if (id == NONE) {
      throw new NoSuchElementException("no point is visible");
    }
    return id;
  }

  public int within(int radius) {
    return search.countWithin(radius);
  }

  public double influence(int radius) {
    return search.influenceWithin(radius);
  }

  public int closestPair(int what) throws IllegalArgumentException, NoSuchElementException {
    if (what < 0 || what > 2) {
      throw new IllegalArgumentException("there is no such value");
    }
    search.findClosestPair();
    if (search.pairFirst == NONE) {
      throw new NoSuchElementException("fewer than two points are visible");
    }
    if (what == 0) {
      return search.pairFirst;
    }
    return what == 1 ? search.pairSecond : search.pairDistance;
  }

  public int followers(int id) throws NoSuchElementException {
    requireVisible(id);
    return search.countFollowers(id);
  }

  public int clusters(int radius) {
    return search.labelClusters(radius);
  }

  public int clusterOf(int id, int radius) throws NoSuchElementException {
    requireVisible(id);
    search.labelClusters(radius);
    return search.firstOfCluster(id);
  }

  // -------------------------------------------------------- queries by box

  public void corner(int corner, int x, int y, int z)
      throws IndexOutOfBoundsException, IllegalArgumentException {
    if (corner != 0 && corner != 1) {
      throw new IndexOutOfBoundsException("there is no such corner");
    }
    if (!isPlace(x, y, z)) {
      throw new IllegalArgumentException("a coordinate is out of range");
    }
    putPlace(corner == 0 ? state.settings.lowerCorner : state.settings.upperCorner, x, y, z);
  }

  public int inBox() {
    return search.gatherBox();
  }

  public int boxPoint(int index) throws NoSuchElementException {
    int count = search.gatherBox();
    if (index < 0 || index >= count) {
      throw new NoSuchElementException("there is no such index");
    }
    return search.found.at(index);
  }

  public int boxWeight() {
    search.gatherBox();
    return search.weightOfFound();
  }

  public double center(int axis) throws IllegalArgumentException, ArithmeticException {
    requireAxis(axis);
    search.gatherBox();
    int weights = search.weightOfFound();
    if (weights == 0) {
      throw new ArithmeticException("the sum of the weights is 0");
    }
    return (double) search.momentOfFound(axis) / (double) weights;
  }

  public int visits() {
    return search.countVisits();
  }

  // ------------------------------------------------------ cursor and texts

  public int open(int order) throws IllegalArgumentException {
    if (order != PREORDER && order != INORDER && order != LEVEL_ORDER) {
      throw new IllegalArgumentException("there is no such order");
    }
    return cursor.start(order);
  }

  public boolean hasNext() throws IllegalStateException {
    requireCursor();
    return cursor.hasMore();
  }

  public int next() throws IllegalStateException, NoSuchElementException {
    requireCursor();
    if (!cursor.hasMore()) {
      throw new NoSuchElementException("there is no further point");
    }
    return cursor.advance();
  }

  public void append(char c) throws IllegalStateException {
    if (text.length >= MAX_TEXT) {
      throw new IllegalStateException("the buffer is full");
    }
    text.addSign(c);
  }

  public int read() throws IllegalArgumentException, IllegalStateException {
    text.parse();
    if (text.fault != NONE || text.isBeyond) {
      throw new IllegalArgumentException("the text has a fault or is invalid");
    }
    if (!state.points.hasRoomFor(text.described)) {
      throw new IllegalStateException("no room for the points described");
    }
    cursor.invalidate();
    for (int i = 0; i < text.described; i++) {
      state.createPoint(text.partOf(i, 0), text.partOf(i, 1), text.partOf(i, 2),
          text.partOf(i, Text.WEIGHT_PART), text.partOf(i, Text.TAG_PART));
    }
    return text.described;
  }

  public int faultPosition() {
    return text.fault;
  }

  // -------------------------------------------------------------- snapshot

  public void save() {
    snapshot.copyFrom(state);
    saved = true;
  }

  public void restore() throws IllegalStateException {
    if (!saved) {
      throw new IllegalStateException("there is no snapshot");
    }
    cursor.invalidate();
    state.copyFrom(snapshot);
  }

  // ---------------------------------------------------------------- checks

  private void requirePoint(int id) {
    if (!state.points.exists(id)) {
      throw new NoSuchElementException("there is no such point");
    }
  }

  private void requireNode(int id) {
    if (!state.tree.contains(id)) {
      throw new NoSuchElementException("the point is not in the tree");
    }
  }

  private void requireBox(int id) {
    if (!state.tree.contains(id) || state.tree.liveSizeOf(id) == 0) {
      throw new NoSuchElementException("there is no bounding box");
    }
  }

  private void requireVisible(int id) {
    if (!search.isVisible(id)) {
      throw new NoSuchElementException("there is no such visible point");
    }
  }

  private void requireAxis(int axis) {
    if (axis < 0 || axis >= AXES) {
      throw new IllegalArgumentException("there is no such axis");
    }
  }

  private void requireCursor() {
    if (!cursor.isValid) {
      throw new IllegalStateException("the cursor is not open or invalid");
    }
  }

  private static boolean isWithin(int value, int limit) {
    return value >= -limit && value <= limit;
  }

  private static boolean isPlace(int x, int y, int z) {
    return isWithin(x, MAX_COORDINATE) && isWithin(y, MAX_COORDINATE)
        && isWithin(z, MAX_COORDINATE);
  }

  private static boolean isLabel(int weight, int tag) {
    return weight >= 0 && weight <= MAX_WEIGHT && tag >= 0 && tag <= MAX_TAG;
  }

  // ------------------------------------------------------------------ rows

  private static int valueAt(int[] row, int index) {
    return index >= 0 && index < row.length ? row[index] : NONE;
  }

  private static void put(int[] row, int index, int value) {
    if (index >= 0 && index < row.length) {
      row[index] = value;
    }
  }

  private static void putPlace(int[] row, int x, int y, int z) {
    put(row, 0, x);
    put(row, 1, y);
    put(row, 2, z);
  }

  private static void copyRow(int[] from, int[] to) {
    System.arraycopy(from, 0, to, 0, Math.min(from.length, to.length));
  }

  /** Numbers of points, or places of them, one after the other: at most one for each point. */
  private static final class Numbers {
    final int[] row = new int[MAX_CREATED];
    int count = 0;

    void clear() {
      count = 0;
    }

    int at(int index) {
      return valueAt(row, index);
    }

    void add(int number) {
      if (count < MAX_CREATED) {
        put(row, count, number);
        count++;
      }
    }

    void addUnlessNone(int number) {
      if (number != NONE) {
        add(number);
      }
    }

    int takeLast() {
      if (count == 0) {
        return NONE;
      }
      count--;
      return valueAt(row, count);
    }
  }

  /** All points created, by their numbers. */
  private static final class Points {
    final int[] coordinates = new int[AXES * MAX_CREATED];
    final int[] weights = new int[MAX_CREATED];
    final int[] tags = new int[MAX_CREATED];
    final int[] lives = new int[MAX_CREATED];
    int created = 0;
    int liveCount = 0;

    boolean exists(int id) {
      return id >= 0 && id < created;
    }

    boolean isAlive(int id) {
      return exists(id) && valueAt(lives, id) == 1;
    }

    boolean hasRoomFor(int number) {
      return liveCount + number <= MAX_LIVE && created + number <= MAX_CREATED;
    }

    int coordinateOf(int id, int axis) {
      return valueAt(coordinates, AXES * id + axis);
    }

    boolean isBefore(int id, int other, int axis) {
      int mine = coordinateOf(id, axis);
      int others = coordinateOf(other, axis);
      return mine < others || mine == others && id < other;
    }

    int addPoint(int x, int y, int z, int weight, int tag) {
      int id = created;
      put(coordinates, AXES * id, x);
      put(coordinates, AXES * id + 1, y);
      put(coordinates, AXES * id + 2, z);
      put(weights, id, weight);
      put(tags, id, tag);
      put(lives, id, 1);
      created++;
      liveCount++;
      return id;
    }

    void kill(int id) {
      put(lives, id, 0);
      liveCount--;
    }

    void moveOn(int id, int axis, int by) {
      put(coordinates, AXES * id + axis, coordinateOf(id, axis) + by);
    }

    void copyFrom(Points other) {
      copyRow(other.coordinates, coordinates);
      copyRow(other.weights, weights);
      copyRow(other.tags, tags);
      copyRow(other.lives, lives);
      created = other.created;
      liveCount = other.liveCount;
    }
  }

  /**
   * Which point hangs where. The links are the tree itself; all other rows follow from them and
   * from the points, and refresh makes them anew after each change.
   */
  private static final class Tree {
    static final int TOP_SLOT = -1;
    static final int EMPTY_LOW = MAX_COORDINATE + 1;
    static final int EMPTY_HIGH = -MAX_COORDINATE - 1;

    final Points points;
    final int[] links = new int[2 * MAX_CREATED];
    final int[] parents = new int[MAX_CREATED];
    final int[] depths = new int[MAX_CREATED];
    final int[] sizes = new int[MAX_CREATED];
    final int[] liveSizes = new int[MAX_CREATED];
    final int[] lows = new int[AXES * MAX_CREATED];
    final int[] highs = new int[AXES * MAX_CREATED];
    final int[] positions = new int[MAX_CREATED];
    final Numbers preorder = new Numbers();
    final Numbers waiting = new Numbers();
    int top = NONE;

    Tree(Points points) {
      this.points = points;
      Arrays.fill(links, NONE);
      Arrays.fill(depths, NONE);
    }

    boolean contains(int id) {
      return valueAt(depths, id) >= 0;
    }

    int childOf(int node, int side) {
      return node < 0 ? NONE : valueAt(links, 2 * node + side);
    }

    int sizeOf(int node) {
      return node < 0 ? 0 : valueAt(sizes, node);
    }

    int liveSizeOf(int node) {
      return node < 0 ? 0 : valueAt(liveSizes, node);
    }

    int lowOf(int node, int axis) {
      return node < 0 ? EMPTY_LOW : valueAt(lows, AXES * node + axis);
    }

    int highOf(int node, int axis) {
      return node < 0 ? EMPTY_HIGH : valueAt(highs, AXES * node + axis);
    }

    int greatestDepth() {
      int greatest = NONE;
      for (int id = 0; id < depths.length; id++) {
        greatest = Math.max(greatest, depths[id]);
      }
      return greatest;
    }

    int slotOf(int node) {
      int parent = valueAt(parents, node);
      if (parent == NONE) {
        return TOP_SLOT;
      }
      return 2 * parent + (childOf(parent, 0) == node ? 0 : 1);
    }

    void hang(int slot, int id) {
      if (slot == TOP_SLOT) {
        top = id;
      } else {
        put(links, slot, id);
      }
      if (id != NONE) {
        put(links, 2 * id, NONE);
        put(links, 2 * id + 1, NONE);
      }
    }

    void addLeaf(int id) {
      int slot = TOP_SLOT;
      int node = top;
      for (int depth = 0; depth < MAX_CREATED && node != NONE; depth++) {
        slot = 2 * node + (points.isBefore(id, node, depth % AXES) ? 0 : 1);
        node = valueAt(links, slot);
      }
      hang(slot, id);
    }

    boolean canMove(int dx, int dy, int dz) {
      for (int i = 0; i < preorder.count; i++) {
        int id = preorder.at(i);
        if (!isPlace(points.coordinateOf(id, 0) + dx, points.coordinateOf(id, 1) + dy,
            points.coordinateOf(id, 2) + dz)) {
          return false;
        }
      }
      return true;
    }

    void move(int dx, int dy, int dz) {
      for (int i = 0; i < preorder.count; i++) {
        int id = preorder.at(i);
        points.moveOn(id, 0, dx);
        points.moveOn(id, 1, dy);
        points.moveOn(id, 2, dz);
      }
      refresh();
    }

    void refresh() {
      listPreorder();
      // From the back, both children of a node come before it.
      for (int i = preorder.count - 1; i >= 0; i--) {
        summarise(preorder.at(i));
      }
    }

    private void listPreorder() {
      Arrays.fill(depths, NONE);
      preorder.clear();
      waiting.clear();
      reach(top, NONE);
      for (int i = 0; i < MAX_CREATED && waiting.count > 0; i++) {
        int node = waiting.takeLast();
        put(positions, node, preorder.count);
        preorder.add(node);
        reach(childOf(node, 1), node);
        reach(childOf(node, 0), node);
      }
    }

    private void reach(int node, int parent) {
      if (node == NONE) {
        return;
      }
      put(parents, node, parent);
      put(depths, node, parent == NONE ? 0 : valueAt(depths, parent) + 1);
      waiting.add(node);
    }

    private void summarise(int node) {
      int left = childOf(node, 0);
      int right = childOf(node, 1);
      boolean alive = points.isAlive(node);
      put(sizes, node, 1 + sizeOf(left) + sizeOf(right));
      put(liveSizes, node, (alive ? 1 : 0) + liveSizeOf(left) + liveSizeOf(right));
      for (int axis = 0; axis < AXES; axis++) {
        int coordinate = points.coordinateOf(node, axis);
        int low = Math.min(lowOf(left, axis), lowOf(right, axis));
        int high = Math.max(highOf(left, axis), highOf(right, axis));
        put(lows, AXES * node + axis, alive ? Math.min(low, coordinate) : low);
        put(highs, AXES * node + axis, alive ? Math.max(high, coordinate) : high);
      }
    }

    void copyFrom(Tree other) {
      copyRow(other.links, links);
      top = other.top;
      refresh();
    }
  }

  /** Replaces subtrees by balanced ones, and counts it. */
  private static final class Rebuilder {
    final Points points;
    final Tree tree;
    final int[] statistics = new int[STATISTICS];
    final Numbers members = new Numbers();
    final int[] taskFroms = new int[MAX_LIVE];
    final int[] taskEnds = new int[MAX_LIVE];
    final int[] taskDepths = new int[MAX_LIVE];
    final int[] taskSlots = new int[MAX_LIVE];
    int taskCount = 0;

    Rebuilder(Points points, Tree tree) {
      this.points = points;
      this.tree = tree;
    }

    void rebuildAt(int node, int cause) {
      put(statistics, cause, valueAt(statistics, cause) + 1);
      if (node == NONE) {
        return;
      }
      gatherMembers(node);
      put(statistics, POINTS_REBUILT, valueAt(statistics, POINTS_REBUILT) + members.count);
      int slot = tree.slotOf(node);
      tree.hang(slot, NONE);
      taskCount = 0;
      addTask(0, members.count, valueAt(tree.depths, node), slot);
      for (int task = 0; task < taskCount && task < MAX_LIVE; task++) {
        doTask(task);
      }
      tree.refresh();
    }

    private void gatherMembers(int node) {
      members.clear();
      int from = valueAt(tree.positions, node);
      int end = from + tree.sizeOf(node);
      for (int i = from; i < end; i++) {
        int id = tree.preorder.at(i);
        if (points.isAlive(id)) {
          members.add(id);
        }
      }
    }

    private void addTask(int from, int end, int depth, int slot) {
      if (from >= end) {
        return;
      }
      put(taskFroms, taskCount, from);
      put(taskEnds, taskCount, end);
      put(taskDepths, taskCount, depth);
      put(taskSlots, taskCount, slot);
      taskCount++;
    }

    private void doTask(int task) {
      int from = valueAt(taskFroms, task);
      int end = valueAt(taskEnds, task);
      int depth = valueAt(taskDepths, task);
      sortMembers(from, end, depth % AXES);
      int middle = from + (end - from) / 2;
      int node = members.at(middle);
      tree.hang(valueAt(taskSlots, task), node);
      addTask(from, middle, depth + 1, 2 * node);
      addTask(middle + 1, end, depth + 1, 2 * node + 1);
    }

    private void sortMembers(int from, int end, int axis) {
      for (int i = from + 1; i < end; i++) {
        int id = members.at(i);
        int hole = i;
        while (hole > from && points.isBefore(id, members.at(hole - 1), axis)) {
          put(members.row, hole, members.at(hole - 1));
          hole--;
        }
        put(members.row, hole, id);
      }
    }

    void copyFrom(Rebuilder other) {
      copyRow(other.statistics, statistics);
    }
  }

  /** The options, the query point, the query box and the excluded tags. */
  private static final class Settings {
    final int[] options = FIRST_VALUES.clone();
    final int[] queryPoint = new int[AXES];
    final int[] lowerCorner = new int[AXES];
    final int[] upperCorner = new int[AXES];
    final int[] exclusions = new int[MAX_TAG + 1];

    int optionValue(int option) {
      return valueAt(options, option);
    }

    boolean isExcluded(int tag) {
      return valueAt(exclusions, tag) == 1;
    }

    int metricOf(int a, int b, int c) {
      switch (optionValue(METRIC_OPTION)) {
        case 1:
          return Math.max(a, Math.max(b, c));
        case 2:
          return a * a + b * b + c * c;
        case 3:
          return optionValue(FACTOR_OPTION) * a + optionValue(FACTOR_OPTION + 1) * b
              + optionValue(FACTOR_OPTION + 2) * c;
        default:
          return a + b + c;
      }
    }

    void copyFrom(Settings other) {
      copyRow(other.options, options);
      copyRow(other.queryPoint, queryPoint);
      copyRow(other.lowerCorner, lowerCorner);
      copyRow(other.upperCorner, upperCorner);
      copyRow(other.exclusions, exclusions);
    }
  }

  /** All that a snapshot holds. */
  private static final class State {
    final Points points = new Points();
    final Tree tree = new Tree(points);
    final Rebuilder rebuilder = new Rebuilder(points, tree);
    final Settings settings = new Settings();

    int createPoint(int x, int y, int z, int weight, int tag) {
      int id = points.addPoint(x, y, z, weight, tag);
      tree.addLeaf(id);
      tree.refresh();
      int node = highestUnbalanced(id);
      if (node != NONE) {
        rebuilder.rebuildAt(node, AFTER_INSERTION);
      }
      return id;
    }

    private int highestUnbalanced(int leaf) {
      int highest = NONE;
      int node = leaf;
      for (int i = 0; i < MAX_CREATED && node != NONE; i++) {
        if (isUnbalanced(node)) {
          highest = node;
        }
        node = valueAt(tree.parents, node);
      }
      return highest;
    }

    private boolean isUnbalanced(int node) {
      int left = tree.sizeOf(tree.childOf(node, 0));
      int right = tree.sizeOf(tree.childOf(node, 1));
      int greater = Math.max(left, right);
      return greater * 100 > settings.optionValue(BALANCE_OPTION) * tree.sizeOf(node);
    }

    void removePoint(int id) {
      points.kill(id);
      tree.refresh();
      int removed = tree.preorder.count - points.liveCount;
      if (removed * 100 > settings.optionValue(REMOVAL_OPTION) * tree.preorder.count) {
        rebuilder.rebuildAt(tree.top, AFTER_REMOVAL);
      }
    }

    void copyFrom(State other) {
      points.copyFrom(other.points);
      tree.copyFrom(other.tree);
      rebuilder.copyFrom(other.rebuilder);
      settings.copyFrom(other.settings);
    }
  }

  /** Answers questions about the visible points. */
  private static final class Search {
    final Points points;
    final Tree tree;
    final Settings settings;
    final Numbers found = new Numbers();
    final int[] distances = new int[MAX_LIVE];
    final int[] labels = new int[MAX_LIVE];
    final Numbers waiting = new Numbers();
    int pairFirst = NONE;
    int pairSecond = NONE;
    int pairDistance = 0;

    Search(State state) {
      points = state.points;
      tree = state.tree;
      settings = state.settings;
    }

    boolean isVisible(int id) {
      return points.isAlive(id) && !settings.isExcluded(valueAt(points.tags, id));
    }

    int countVisible() {
      found.clear();
      for (int id = 0; id < points.created; id++) {
        if (isVisible(id)) {
          found.add(id);
        }
      }
      return found.count;
    }

    int between(int id, int other) {
      return settings.metricOf(
          Math.abs(points.coordinateOf(id, 0) - points.coordinateOf(other, 0)),
          Math.abs(points.coordinateOf(id, 1) - points.coordinateOf(other, 1)),
          Math.abs(points.coordinateOf(id, 2) - points.coordinateOf(other, 2)));
    }

    int fromQuery(int id) {
      int[] from = settings.queryPoint;
      return settings.metricOf(
          Math.abs(points.coordinateOf(id, 0) - valueAt(from, 0)),
          Math.abs(points.coordinateOf(id, 1) - valueAt(from, 1)),
          Math.abs(points.coordinateOf(id, 2) - valueAt(from, 2)));
    }

    int fromQueryToBox(int node) {
      return settings.metricOf(gapOn(node, 0), gapOn(node, 1), gapOn(node, 2));
    }

    private int gapOn(int node, int axis) {
      int at = valueAt(settings.queryPoint, axis);
      int below = tree.lowOf(node, axis) - at;
      int above = at - tree.highOf(node, axis);
      return Math.max(0, Math.max(below, above));
    }

    private void measureVisible() {
      countVisible();
      for (int i = 0; i < found.count; i++) {
        put(distances, i, fromQuery(found.at(i)));
      }
    }

    int nearestAt(int index) {
      measureVisible();
      for (int i = 0; i < found.count; i++) {
        if (rankOf(i) == index) {
          return found.at(i);
        }
      }
      return NONE;
    }

    private int rankOf(int place) {
      int mine = valueAt(distances, place);
      int rank = 0;
      for (int i = 0; i < found.count; i++) {
        int others = valueAt(distances, i);
        if (others < mine || others == mine && i < place) {
          rank++;
        }
      }
      return rank;
    }

    int farthestPoint() {
      measureVisible();
      int best = NONE;
      for (int i = 0; i < found.count; i++) {
        if (best == NONE || valueAt(distances, i) > valueAt(distances, best)) {
          best = i;
        }
      }
      return best == NONE ? NONE : found.at(best);
    }

    int countWithin(int radius) {
      measureVisible();
      int number = 0;
      for (int i = 0; i < found.count; i++) {
        if (valueAt(distances, i) <= radius) {
          number++;
        }
      }
      return number;
    }

    double influenceWithin(int radius) {
      measureVisible();
      double sum = 0.0;
      for (int i = 0; i < found.count; i++) {
        int distance = valueAt(distances, i);
        if (distance >= 0 && distance <= radius) {
          sum += (double) valueAt(points.weights, found.at(i)) / (double) (1 + distance);
        }
      }
      return sum;
    }

    /** Leaves NONE as the first one if there is no pair. */
    void findClosestPair() {
      countVisible();
      pairFirst = NONE;
      for (int i = 0; i < found.count; i++) {
        for (int j = i + 1; j < found.count; j++) {
          offerPair(found.at(i), found.at(j));
        }
      }
    }

    private void offerPair(int first, int second) {
      int distance = between(first, second);
      if (pairFirst == NONE || distance < pairDistance) {
        pairFirst = first;
        pairSecond = second;
        pairDistance = distance;
      }
    }

    int countFollowers(int id) {
      countVisible();
      int number = 0;
      for (int i = 0; i < found.count; i++) {
        if (nearestOther(found.at(i)) == id) {
          number++;
        }
      }
      return number;
    }

    private int nearestOther(int id) {
      int best = NONE;
      int least = 0;
      for (int i = 0; i < found.count; i++) {
        int other = found.at(i);
        int distance = between(id, other);
        if (other != id && (best == NONE || distance < least)) {
          best = other;
          least = distance;
        }
      }
      return best;
    }

    /** Labels each visible point with the place of the first one of its cluster. */
    int labelClusters(int radius) {
      countVisible();
      Arrays.fill(labels, NONE);
      int number = 0;
      for (int i = 0; i < found.count; i++) {
        if (valueAt(labels, i) == NONE) {
          spreadLabel(i, radius);
          number++;
        }
      }
      return number;
    }

    private void spreadLabel(int first, int radius) {
      put(labels, first, first);
      waiting.clear();
      waiting.add(first);
      for (int i = 0; i < MAX_LIVE && i < waiting.count; i++) {
        labelNeighbours(waiting.at(i), first, radius);
      }
    }

    private void labelNeighbours(int place, int label, int radius) {
      for (int i = 0; i < found.count; i++) {
        if (valueAt(labels, i) == NONE
            && between(found.at(place), found.at(i)) <= radius) {
          put(labels, i, label);
          waiting.add(i);
        }
      }
    }

    int firstOfCluster(int id) {
      for (int i = 0; i < found.count; i++) {
        if (found.at(i) == id) {
          return found.at(valueAt(labels, i));
        }
      }
      return NONE;
    }

    int gatherBox() {
      found.clear();
      for (int id = 0; id < points.created; id++) {
        if (isVisible(id) && isInBox(id)) {
          found.add(id);
        }
      }
      return found.count;
    }

    private boolean isInBox(int id) {
      for (int axis = 0; axis < AXES; axis++) {
        int coordinate = points.coordinateOf(id, axis);
        if (coordinate < valueAt(settings.lowerCorner, axis)
            || coordinate > valueAt(settings.upperCorner, axis)) {
          return false;
        }
      }
      return true;
    }

    int weightOfFound() {
      int sum = 0;
      for (int i = 0; i < found.count; i++) {
        sum += valueAt(points.weights, found.at(i));
      }
      return sum;
    }

    int momentOfFound(int axis) {
      int sum = 0;
      for (int i = 0; i < found.count; i++) {
        int id = found.at(i);
        sum += points.coordinateOf(id, axis) * valueAt(points.weights, id);
      }
      return sum;
    }

    int countVisits() {
      waiting.clear();
      waiting.addUnlessNone(tree.top);
      for (int i = 0; i < MAX_CREATED && i < waiting.count; i++) {
        int node = waiting.at(i);
        if (meetsBox(node)) {
          waiting.addUnlessNone(tree.childOf(node, 0));
          waiting.addUnlessNone(tree.childOf(node, 1));
        }
      }
      return waiting.count;
    }

    private boolean meetsBox(int node) {
      if (tree.liveSizeOf(node) == 0) {
        return false;
      }
      for (int axis = 0; axis < AXES; axis++) {
        int from = Math.max(tree.lowOf(node, axis), valueAt(settings.lowerCorner, axis));
        int to = Math.min(tree.highOf(node, axis), valueAt(settings.upperCorner, axis));
        if (from > to) {
          return false;
        }
      }
      return true;
    }
  }

  /** Holds the live points in an order; any change of the tree makes it invalid. */
  private static final class Cursor {
    final Tree tree;
    final Numbers ids = new Numbers();
    final Numbers waiting = new Numbers();
    int position = 0;
    boolean isValid = false;

    Cursor(Tree tree) {
      this.tree = tree;
    }

    void invalidate() {
      isValid = false;
    }

    boolean hasMore() {
      return position < ids.count;
    }

    int advance() {
      int id = ids.at(position);
      position++;
      return id;
    }

    int start(int order) {
      ids.clear();
      waiting.clear();
      position = 0;
      isValid = true;
      switch (order) {
        case PREORDER:
          listPreorder();
          break;
        case INORDER:
          listInorder();
          break;
        default:
          listLevels();
          break;
      }
      return ids.count;
    }

    private void addIfAlive(int id) {
      if (tree.points.isAlive(id)) {
        ids.add(id);
      }
    }

    private void listPreorder() {
      for (int i = 0; i < tree.preorder.count; i++) {
        addIfAlive(tree.preorder.at(i));
      }
    }

    private void listInorder() {
      waitLeftwards(tree.top);
      for (int i = 0; i < MAX_CREATED && waiting.count > 0; i++) {
        int node = waiting.takeLast();
        addIfAlive(node);
        waitLeftwards(tree.childOf(node, 1));
      }
    }

    private void waitLeftwards(int from) {
      int node = from;
      for (int i = 0; i < MAX_CREATED && node != NONE; i++) {
        waiting.add(node);
        node = tree.childOf(node, 0);
      }
    }

    private void listLevels() {
      waiting.addUnlessNone(tree.top);
      for (int i = 0; i < MAX_CREATED && i < waiting.count; i++) {
        int node = waiting.at(i);
        addIfAlive(node);
        waiting.addUnlessNone(tree.childOf(node, 0));
        waiting.addUnlessNone(tree.childOf(node, 1));
      }
    }
  }

  /** The text buffer, and what the latest text read describes. */
  private static final class Text {
    static final int WEIGHT_PART = 3;
    static final int TAG_PART = 4;
    static final int PARTS = 5;
    // The shortest description has 5 characters and a separator.
    static final int MAX_DESCRIBED = MAX_TEXT / 6 + 1;

    final char[] signs = new char[MAX_TEXT];
    final int[] parts = new int[PARTS * MAX_DESCRIBED];
    int length = 0;
    int position = 0;
    int described = 0;
    int fault = NONE;
    boolean isBeyond = false;

    void addSign(char sign) {
      if (length >= 0 && length < signs.length) {
        signs[length] = sign;
        length++;
      }
    }

    int partOf(int index, int part) {
      return valueAt(parts, PARTS * index + part);
    }

    /** Takes the text out of the buffer; the first fault ends it. */
    void parse() {
      position = 0;
      described = 0;
      fault = NONE;
      isBeyond = false;
      boolean more = true;
      for (int i = 0; i < MAX_DESCRIBED && more; i++) {
        parseDescription();
        more = fault == NONE && position < length;
        if (more) {
          demand(';');
          more = fault == NONE;
        }
      }
      length = 0;
    }

    private void parseDescription() {
      for (int axis = 0; axis < AXES && fault == NONE; axis++) {
        if (axis > 0) {
          demand(',');
        }
        parseCoordinate(axis);
      }
      putPart(WEIGHT_PART, accepts(':') ? parseNumber(2) : 1);
      putPart(TAG_PART, accepts('#') ? parseNumber(1) : 0);
      described++;
    }

    private void parseCoordinate(int axis) {
      boolean negative = accepts('-');
      int value = parseNumber(3);
      if (value > MAX_COORDINATE) {
        isBeyond = true;
      }
      putPart(axis, negative ? -value : value);
    }

    private void putPart(int part, int value) {
      put(parts, PARTS * described + part, value);
    }

    private boolean accepts(char sign) {
      if (fault != NONE || !hasSign() || signs[position] != sign) {
        return false;
      }
      position++;
      return true;
    }

    private void demand(char sign) {
      if (!accepts(sign)) {
        markFault();
      }
    }

    private void markFault() {
      if (fault == NONE) {
        fault = position;
      }
    }

    private int parseNumber(int maxDigits) {
      int value = 0;
      int digits = 0;
      while (digits < maxDigits && hasDigit() && (digits == 0 || value != 0)) {
        value = 10 * value + (signs[position] - '0');
        position++;
        digits++;
      }
      if (digits == 0) {
        markFault();
      }
      return value;
    }

    private boolean hasDigit() {
      return fault == NONE && hasSign() && signs[position] >= '0' && signs[position] <= '9';
    }

    private boolean hasSign() {
      return position >= 0 && position < length && position < signs.length;
    }
  }
}
