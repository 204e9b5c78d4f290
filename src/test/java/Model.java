import java.util.ArrayList;
import java.util.Arrays;
import java.util.Comparator;
import java.util.List;
import java.util.NoSuchElementException;
import java.util.regex.Matcher;
import java.util.regex.Pattern;

/** The document once more, written in another way: slow, with objects, streams and recursion. */
final class Model {
  static final class Point {
    int id;
    int[] at;
    int weight;
    int tag;
    boolean live = true;

    Point copy() {
      Point c = new Point();
      c.id = id;
      c.at = at.clone();
      c.weight = weight;
      c.tag = tag;
      c.live = live;
      return c;
    }
  }

  static final class Node {
    Point point;
    Node left;
    Node right;

    Node copy(List<Point> points) {
      Node c = new Node();
      c.point = points.get(point.id);
      c.left = left == null ? null : left.copy(points);
      c.right = right == null ? null : right.copy(points);
      return c;
    }
  }

  private List<Point> points = new ArrayList<>();
  private Node top;
  private int[] options = {70, 50, 0, 1, 1, 1};
  private int[] statistics = new int[4];
  private int[] query = new int[3];
  private int[][] corners = new int[2][3];
  private boolean[] excluded = new boolean[10];
  private Model saved;
  private List<Integer> cursor;
  private String text = "";
  private int fault = -1;

  private static void need(boolean fine, RuntimeException e) {
    if (!fine) {
      throw e;
    }
  }

  private static void legal(boolean fine) {
    need(fine, new IllegalArgumentException());
  }

  private static void exists(boolean fine) {
    need(fine, new NoSuchElementException());
  }

  private static boolean in(int value, int from, int to) {
    return from <= value && value <= to;
  }

  private static boolean place(int... at) {
    return Arrays.stream(at).allMatch(c -> in(c, -100, 100));
  }

  private Point point(int id) {
    exists(in(id, 0, points.size() - 1));
    return points.get(id);
  }

  private List<Point> live() {
    return points.stream().filter(p -> p.live).toList();
  }

  private List<Point> visible() {
    return points.stream().filter(p -> p.live && !excluded[p.tag]).toList();
  }

  private Point visible(int id) {
    exists(visible().stream().anyMatch(p -> p.id == id));
    return points.get(id);
  }

  private static List<Node> inorder(Node node) {
    List<Node> all = new ArrayList<>();
    if (node != null) {
      all.addAll(inorder(node.left));
      all.add(node);
      all.addAll(inorder(node.right));
    }
    return all;
  }

  private static List<Node> preorder(Node node) {
    List<Node> all = new ArrayList<>();
    if (node != null) {
      all.add(node);
      all.addAll(preorder(node.left));
      all.addAll(preorder(node.right));
    }
    return all;
  }

  private static int size(Node node) {
    return inorder(node).size();
  }

  private Node node(int id) {
    Node found = inorder(top).stream().filter(n -> n.point.id == id).findFirst().orElse(null);
    exists(found != null);
    return found;
  }

  private static List<Node> path(Node from, Node to) {
    List<Node> path = new ArrayList<>();
    if (from != null && inorder(from).contains(to)) {
      path.add(from);
      path.addAll(path(from.left, to));
      path.addAll(path(from.right, to));
    }
    return path;
  }

  private static Comparator<Point> on(int axis) {
    return Comparator.<Point>comparingInt(p -> p.at[axis]).thenComparingInt(p -> p.id);
  }

  private static Node balanced(List<Point> given, int depth) {
    if (given.isEmpty()) {
      return null;
    }
    List<Point> sorted = given.stream().sorted(on(depth % 3)).toList();
    int middle = sorted.size() / 2;
    Node node = new Node();
    node.point = sorted.get(middle);
    node.left = balanced(sorted.subList(0, middle), depth + 1);
    node.right = balanced(sorted.subList(middle + 1, sorted.size()), depth + 1);
    return node;
  }

  private Node rebuilt(Node node, int depth, int cause) {
    List<Point> given = inorder(node).stream().map(n -> n.point).filter(p -> p.live).toList();
    statistics[cause]++;
    statistics[3] += given.size();
    return balanced(given, depth);
  }

  private static Node added(Node node, Point point, int depth) {
    if (node == null) {
      Node leaf = new Node();
      leaf.point = point;
      return leaf;
    }
    if (on(depth % 3).compare(point, node.point) < 0) {
      node.left = added(node.left, point, depth + 1);
    } else {
      node.right = added(node.right, point, depth + 1);
    }
    return node;
  }

  private Node settled(Node node, Point point, int depth) {
    int greater = Math.max(size(node.left), size(node.right));
    if (greater * 100 > options[0] * size(node)) {
      return rebuilt(node, depth, 0);
    }
    if (node.point != point) {
      if (on(depth % 3).compare(point, node.point) < 0) {
        node.left = settled(node.left, point, depth + 1);
      } else {
        node.right = settled(node.right, point, depth + 1);
      }
    }
    return node;
  }

  public int insert(int x, int y, int z, int weight, int tag) {
    legal(place(x, y, z) && in(weight, 0, 99) && in(tag, 0, 9));
    need(live().size() < 60 && points.size() < 200, new IllegalStateException());
    Point point = new Point();
    point.id = points.size();
    point.at = new int[] {x, y, z};
    point.weight = weight;
    point.tag = tag;
    points.add(point);
    top = added(top, point, 0);
    top = settled(top, point, 0);
    cursor = null;
    return point.id;
  }

  public int remove(int id) {
    exists(isLive(id));
    points.get(id).live = false;
    cursor = null;
    if (count(1) * 100 > options[1] * size(top)) {
      top = rebuilt(top, 0, 1);
    }
    return live().size();
  }

  public boolean isLive(int id) {
    return in(id, 0, points.size() - 1) && points.get(id).live;
  }

  public int coordinate(int id, int axis) {
    Point point = point(id);
    legal(in(axis, 0, 2));
    return point.at[axis];
  }

  public int weight(int id) {
    return point(id).weight;
  }

  public int tag(int id) {
    return point(id).tag;
  }

  public int label(int id, int weight, int tag) {
    Point point = point(id);
    legal(in(weight, 0, 99) && in(tag, 0, 9));
    int previous = point.weight * 10 + point.tag;
    point.weight = weight;
    point.tag = tag;
    return previous;
  }

  public int shift(int dx, int dy, int dz) {
    legal(in(dx, -200, 200) && in(dy, -200, 200) && in(dz, -200, 200));
    List<Node> all = inorder(top);
    for (Node n : all) {
      need(place(n.point.at[0] + dx, n.point.at[1] + dy, n.point.at[2] + dz),
          new ArithmeticException());
    }
    for (Node n : all) {
      n.point.at = new int[] {n.point.at[0] + dx, n.point.at[1] + dy, n.point.at[2] + dz};
    }
    return all.size();
  }

  public int root() {
    exists(top != null);
    return top.point.id;
  }

  public int child(int id, int side) {
    Node node = node(id);
    legal(in(side, 0, 1));
    Node child = side == 0 ? node.left : node.right;
    return child == null ? -1 : child.point.id;
  }

  public int parent(int id) {
    List<Node> path = path(top, node(id));
    return path.size() < 2 ? -1 : path.get(path.size() - 2).point.id;
  }

  public int depth(int id) {
    return path(top, node(id)).size() - 1;
  }

  public int height() {
    return inorder(top).stream().mapToInt(n -> depth(n.point.id) + 1).max().orElse(0);
  }

  public int subtree(int id, int what) {
    Node node = node(id);
    legal(in(what, 0, 1));
    return (int) inorder(node).stream().filter(n -> what == 0 || n.point.live).count();
  }

  public int count(int what) {
    legal(in(what, 0, 3));
    return new int[] {live().size(), size(top) - live().size(), points.size(), visible().size()}[what];
  }

  private int[] extent(Node node, int axis) {
    return inorder(node).stream().filter(n -> n.point.live).mapToInt(n -> n.point.at[axis]).sorted()
        .toArray();
  }

  public int bound(int id, int axis, int side) {
    Node node = node(id);
    exists(extent(node, 0).length > 0);
    legal(in(axis, 0, 2) && in(side, 0, 1));
    int[] all = extent(node, axis);
    return all[side == 0 ? 0 : all.length - 1];
  }

  public int setOption(int option, int value) {
    need(in(option, 0, 5), new IndexOutOfBoundsException());
    int[][] ranges = {{55, 95}, {10, 90}, {0, 3}, {1, 9}, {1, 9}, {1, 9}};
    legal(in(value, ranges[option][0], ranges[option][1]));
    int previous = options[option];
    options[option] = value;
    return previous;
  }

  public int rebuild() {
    int before = count(1);
    top = rebuilt(top, 0, 2);
    cursor = null;
    return before;
  }

  public int rebuilds(int what) {
    legal(in(what, 0, 3));
    return statistics[what];
  }

  public void query(int x, int y, int z) {
    legal(place(x, y, z));
    query = new int[] {x, y, z};
  }

  public boolean exclude(int tag, boolean exclude) {
    legal(in(tag, 0, 9));
    boolean before = excluded[tag];
    excluded[tag] = exclude;
    return before;
  }

  private int metric(int... d) {
    int sum = 0;
    int greatest = 0;
    for (int axis = 0; axis < 3; axis++) {
      int a = Math.abs(d[axis]);
      greatest = Math.max(greatest, a);
      sum += options[2] == 2 ? a * a : options[2] == 3 ? options[3 + axis] * a : a;
    }
    return options[2] == 1 ? greatest : sum;
  }

  private int apart(int[] p, int[] q) {
    return metric(p[0] - q[0], p[1] - q[1], p[2] - q[2]);
  }

  public int distance(int id) {
    return apart(point(id).at, query);
  }

  public int boxDistance(int id) {
    Node node = node(id);
    exists(extent(node, 0).length > 0);
    int[] d = new int[3];
    for (int axis = 0; axis < 3; axis++) {
      int low = bound(id, axis, 0);
      int high = bound(id, axis, 1);
      d[axis] = in(query[axis], low, high) ? 0
          : Math.min(Math.abs(query[axis] - low), Math.abs(query[axis] - high));
    }
    return metric(d);
  }

  public int nearest(int index) {
    List<Point> sorted = visible().stream().sorted(Comparator.comparingInt(p -> distance(p.id))).toList();
    exists(in(index, 0, sorted.size() - 1));
    return sorted.get(index).id;
  }

  public int farthest() {
    List<Point> sorted = visible().stream().sorted(Comparator.comparingInt(p -> -distance(p.id))).toList();
    exists(!sorted.isEmpty());
    return sorted.get(0).id;
  }

  public int within(int radius) {
    return (int) visible().stream().filter(p -> distance(p.id) <= radius).count();
  }

  public double influence(int radius) {
    double sum = 0.0;
    for (Point p : visible()) {
      if (distance(p.id) <= radius) {
        sum = sum + ((double) p.weight) / (1.0 + distance(p.id));
      }
    }
    return sum;
  }

  public int closestPair(int what) {
    legal(in(what, 0, 2));
    List<int[]> pairs = new ArrayList<>();
    for (Point p : visible()) {
      for (Point q : visible()) {
        if (p.id < q.id) {
          pairs.add(new int[] {p.id, q.id, apart(p.at, q.at)});
        }
      }
    }
    exists(!pairs.isEmpty());
    return pairs.stream().min(Comparator.comparingInt(pair -> pair[2])).get()[what];
  }

  public int followers(int id) {
    visible(id);
    int number = 0;
    for (Point p : visible()) {
      Point best = visible().stream().filter(q -> q != p)
          .min(Comparator.comparingInt(q -> apart(p.at, q.at))).orElse(null);
      number += best != null && best.id == id ? 1 : 0;
    }
    return number;
  }

  private int[] clustersOf(int radius) {
    int[] label = new int[points.size()];
    visible().forEach(p -> label[p.id] = p.id);
    for (int turn = 0; turn < 60; turn++) {
      for (Point p : visible()) {
        for (Point q : visible()) {
          if (apart(p.at, q.at) <= radius) {
            label[p.id] = Math.min(label[p.id], label[q.id]);
          }
        }
      }
    }
    return label;
  }

  public int clusters(int radius) {
    int[] label = clustersOf(radius);
    return (int) visible().stream().filter(p -> label[p.id] == p.id).count();
  }

  public int clusterOf(int id, int radius) {
    visible(id);
    return clustersOf(radius)[id];
  }

  public void corner(int corner, int x, int y, int z) {
    need(in(corner, 0, 1), new IndexOutOfBoundsException());
    legal(place(x, y, z));
    corners[corner] = new int[] {x, y, z};
  }

  private List<Point> boxed() {
    return visible().stream().filter(p -> in(p.at[0], corners[0][0], corners[1][0])
        && in(p.at[1], corners[0][1], corners[1][1])
        && in(p.at[2], corners[0][2], corners[1][2])).toList();
  }

  public int inBox() {
    return boxed().size();
  }

  public int boxPoint(int index) {
    exists(in(index, 0, boxed().size() - 1));
    return boxed().get(index).id;
  }

  public int boxWeight() {
    return boxed().stream().mapToInt(p -> p.weight).sum();
  }

  public double center(int axis) {
    legal(in(axis, 0, 2));
    need(boxWeight() != 0, new ArithmeticException());
    return (double) boxed().stream().mapToInt(p -> p.weight * p.at[axis]).sum() / (double) boxWeight();
  }

  private boolean meets(Node node) {
    boolean meets = extent(node, 0).length > 0;
    for (int axis = 0; meets && axis < 3; axis++) {
      boolean common = false;
      for (int c = corners[0][axis]; c <= corners[1][axis]; c++) {
        common |= in(c, bound(node.point.id, axis, 0), bound(node.point.id, axis, 1));
      }
      meets = common;
    }
    return meets;
  }

  private int visitsFrom(Node node) {
    if (node == null) {
      return 0;
    }
    return meets(node) ? 1 + visitsFrom(node.left) + visitsFrom(node.right) : 1;
  }

  public int visits() {
    return visitsFrom(top);
  }

  public int open(int order) {
    legal(in(order, 0, 2));
    List<Node> all = order == 1 ? inorder(top) : preorder(top);
    if (order == 2) {
      all = all.stream().sorted(Comparator.comparingInt(n -> depth(n.point.id))).toList();
    }
    cursor = new ArrayList<>(all.stream().filter(n -> n.point.live).map(n -> n.point.id).toList());
    return cursor.size();
  }

  public boolean hasNext() {
    need(cursor != null, new IllegalStateException());
    return !cursor.isEmpty();
  }

  public int next() {
    need(cursor != null, new IllegalStateException());
    exists(!cursor.isEmpty());
    return cursor.remove(0);
  }

  public void append(char c) {
    need(text.length() < 90, new IllegalStateException());
    text += c;
  }

  private static final String NUMBER = "-?(?:0|[1-9][0-9]{0,2})";
  private static final Pattern ONE = Pattern.compile("(" + NUMBER + "),(" + NUMBER + "),(" + NUMBER
      + ")(?::(0|[1-9][0-9]?))?(?:#([0-9]))?");
  private static final Pattern ALL = Pattern.compile("(?s)" + ONE.pattern() + "(?:;" + ONE.pattern() + ")*");

  /** The fault by trial: the longest beginning that some end makes into a text. */
  private static int faultOf(String text) {
    if (ALL.matcher(text).matches()) {
      return -1;
    }
    String[] ends = {"", "0", ",0,0", ",0", "0,0,0", "0,0", "1,1,1;1,1,1"};
    for (int length = text.length(); length > 0; length--) {
      for (String end : ends) {
        if (ALL.matcher(text.substring(0, length) + end).matches()) {
          return length;
        }
      }
    }
    return 0;
  }

  public int read() {
    String read = text;
    text = "";
    fault = faultOf(read);
    legal(fault == -1);
    List<int[]> all = new ArrayList<>();
    for (String one : read.split(";")) {
      Matcher m = ONE.matcher(one);
      legal(m.matches());
      all.add(new int[] {Integer.parseInt(m.group(1)), Integer.parseInt(m.group(2)),
          Integer.parseInt(m.group(3)), m.group(4) == null ? 1 : Integer.parseInt(m.group(4)),
          m.group(5) == null ? 0 : Integer.parseInt(m.group(5))});
    }
    all.forEach(a -> legal(place(a[0], a[1], a[2])));
    need(live().size() + all.size() <= 60 && points.size() + all.size() <= 200,
        new IllegalStateException());
    all.forEach(a -> insert(a[0], a[1], a[2], a[3], a[4]));
    return all.size();
  }

  public int faultPosition() {
    return fault;
  }

  private void take(Model from) {
    points = new ArrayList<>(from.points.stream().map(Point::copy).toList());
    top = from.top == null ? null : from.top.copy(points);
    options = from.options.clone();
    statistics = from.statistics.clone();
    query = from.query.clone();
    corners = new int[][] {from.corners[0].clone(), from.corners[1].clone()};
    excluded = from.excluded.clone();
  }

  public void save() {
    saved = new Model();
    saved.take(this);
  }

  public void restore() {
    need(saved != null, new IllegalStateException());
    take(saved);
    cursor = null;
  }
}
