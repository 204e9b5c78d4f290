/** Promises 42 to 44: the texts. */
public final class TextTest {
  public static void main(String[] args) {
    promise42();
    faults();
    invalid();
    valid();
    limits();
    manyDescriptions();
    rebuildsWhileReading();
    Check.end();
  }

  private static void promise42() {
    SpatialPoints p = new SpatialPoints();
    Check.write(p, "0,0,0;".repeat(15));
    Check.badState("42 full", Check.of(() -> p.append('0')));
    Check.badState("42 still full", Check.of(() -> p.append('\uffff')));
    Check.illegal("43 ends too early", () -> p.read());
    Check.due("44 the length", () -> p.faultPosition(), 90);
    Check.done("42 room again", () -> p.append('\uffff'));
    Check.done("42 any character", () -> p.append('\0'));
    Check.illegal("43 strange", () -> p.read());
    Check.due("44 strange", () -> p.faultPosition(), 0);
    Check.write(p, "0,0,0;".repeat(14) + "1,2,-3");
    Check.badState("42 full again", Check.of(() -> p.append(';')));
    Check.due("43 full", () -> p.read(), 15);
    Check.due("44 none", () -> p.faultPosition(), -1);
  }

  private static void fault(String text, int position) {
    SpatialPoints p = new SpatialPoints();
    Check.write(p, text);
    Check.illegal("43 " + text, () -> p.read());
    Check.due("44 " + text, () -> p.faultPosition(), position);
    Check.due("43 nothing made by " + text, () -> p.count(2), 0);
    Check.illegal("43 emptied after " + text, () -> p.read());
    Check.due("44 emptied after " + text, () -> p.faultPosition(), 0);
  }

  private static void faults() {
    String[] early = {"", "-", "1", "12", "123", "1,", "1,-", "1,2", "1,2,", "1,2,-", "1,2,3:",
        "1,2,3#", "1,2,3;", "1,2,3:4#", "1,2,3:4;", "1,2,3#4;", "1,2,3;-", "1,2,3;4,5,", "-0"};
    for (String text : early) {
      fault(text, text.length());
    }
    // The sign ^ stands before the first character that cannot continue the text.
    String[] marked = {"^ 1,2,3", "^a", "^,", "^;", "^:", "^#", "^+1,2,3", "-^-1,2,3", "-^,", "0^0,1,1",
        "-0^1,1,1", "123^4,", "-100^0,1,1", "1^;", "1^:", "1,^,", "1,^ 2,3", "1,2^;", "1,2,^;",
        "1,2,3^,", "1,2,3^ ", "1,2,3^-", "1,2,3:^-1", "1,2,3:^#", "1,2,3:0^0", "1,2,3:0^1",
        "1,2,3:12^3", "1,2,3:4^:", "1,2,3:4^,", "1,2,3#^-", "1,2,3#^#", "1,2,3#4^5", "1,2,3#4^:",
        "1,2,3#4^#", "1,2,3#4^,", "1,2,3;^;", "1,2,3;^ ", "1,2,3;^:", "999,2,3^x", "1,2,999^9",
        "1,2,0^0", "1,2,3;4,5,6;7^x", "1,2,3#^;", "1,2,3:^;", "1,2,3:4#5;1,2,3:4#^x", "^/,0,0",
        "^:,0,0", "0^.5,0,0", "1,2,3^\u00e9", "^\u0661,2,3"};
    for (String text : marked) {
      fault(text.replace("^", ""), text.indexOf('^'));
    }
  }

  private static void invalid() {
    String[] texts = {"101,0,0", "-101,0,0", "0,101,0", "0,-999,0", "0,0,101", "0,0,-101",
        "1,2,3;101,0,0", "101,0,0;1,2,3", "100,100,100;0,0,200:1#1"};
    for (String text : texts) {
      SpatialPoints p = new SpatialPoints();
      Check.write(p, "x");
      Check.answer(() -> p.read());
      Check.write(p, text);
      Check.illegal("43 invalid " + text, () -> p.read());
      Check.due("44 no fault " + text, () -> p.faultPosition(), -1);
      Check.due("43 none of " + text, () -> p.count(2), 0);
      Check.illegal("43 emptied after " + text, () -> p.read());
    }
  }

  private static void valid() {
    SpatialPoints p = new SpatialPoints();
    Check.due("44 not read yet", () -> p.faultPosition(), -1);
    Check.write(p, "1,-23,100:40#5;-0,0,-100;7,8,9#3;10,11,12:0;-1,-1,-1:99#9");
    Check.due("43 five", () -> p.read(), 5);
    int[][] due = {
      {1, -23, 100, 40, 5}, {0, 0, -100, 1, 0}, {7, 8, 9, 1, 3}, {10, 11, 12, 0, 0},
      {-1, -1, -1, 99, 9}};
    for (int id = 0; id < 5; id++) {
      int i = id;
      for (int axis = 0; axis < 3; axis++) {
        int a = axis;
        Check.due("43 point " + i + ", axis " + a, () -> p.coordinate(i, a), due[i][a]);
      }
      Check.due("43 weight " + i, () -> p.weight(i), due[i][3]);
      Check.due("43 tag " + i, () -> p.tag(i), due[i][4]);
      Check.due("43 live " + i, () -> p.isLive(i), true);
    }
    Check.due("44 no fault", () -> p.faultPosition(), -1);
    Check.due("43 created", () -> p.count(2), 5);
    Check.illegal("43 emptied", () -> p.read());
    Check.due("44 emptied", () -> p.faultPosition(), 0);
    Check.write(p, "0,0,0");
    p.read();
    Check.due("44 of the latest read", () -> p.faultPosition(), -1);
  }

  private static void limits() {
    SpatialPoints p = new SpatialPoints();
    for (int i = 0; i < 58; i++) {
      p.insert(i, -i, i % 5, 1, 0);
    }
    p.open(0);
    Check.write(p, "1,1,1;2,2,2;3,3,3");
    Check.badState("43 61 live", () -> p.read());
    Check.due("44 no fault", () -> p.faultPosition(), -1);
    Check.due("43 none made", () -> p.count(2), 58);
    Check.due("43 cursor stays", () -> p.hasNext(), true);
    Check.illegal("43 emptied", () -> p.read());
    Check.write(p, "1,1,1;2,2,2;3,3,300");
    Check.illegal("43 invalid first", () -> p.read());
    Check.write(p, "1,1,1;2,2,2");
    Check.due("43 60 live", () -> p.read(), 2);
    for (int i = 60; i < 199; i++) {
      p.remove(i - 60);
      p.insert(i % 90, -(i % 80), i % 7, 1, 0);
    }
    p.remove(190);
    p.remove(191);
    Check.write(p, "1,1,1;2,2,2");
    Check.badState("43 201 created", () -> p.read());
    Check.write(p, "1,1,1");
    Check.due("43 200 created", () -> p.read(), 1);
    Check.write(p, "1,1,1");
    Check.badState("43 no more", () -> p.read());
  }

  private static void manyDescriptions() {
    SpatialPoints p = new SpatialPoints();
    Check.write(p, "9,9,9;8,8,8;7,7,7;6,6,6;5,5,5;4,4,4;3,3,3;2,2,2;1,1,1;0,0,0;1,0,0;2,0,0;3,0,0;"
        + "4,0,0;5,0,0");
    Check.due("43 fifteen", () -> p.read(), 15);
    for (int id = 0; id < 15; id++) {
      int i = id;
      Check.due("43 from left to right " + i, () -> p.coordinate(i, 0), i < 10 ? 9 - i : i - 9);
    }
  }

  /** read makes the same tree and statistics as the insertions would. */
  private static void rebuildsWhileReading() {
    SpatialPoints read = new SpatialPoints();
    SpatialPoints inserted = new SpatialPoints();
    Check.write(read, "1,1,1;2,2,2;3,3,3;4,4,4;5,5,5;6,6,6");
    read.read();
    for (int i = 1; i < 7; i++) {
      inserted.insert(i, i, i, 1, 0);
    }
    for (int what = 0; what < 4; what++) {
      int w = what;
      Check.due("43 statistic " + w, () -> read.rebuilds(w), inserted.rebuilds(w));
    }
    for (int id = 0; id < 6; id++) {
      int i = id;
      Check.due("43 parent of " + i, () -> read.parent(i), inserted.parent(i));
    }
  }
}
