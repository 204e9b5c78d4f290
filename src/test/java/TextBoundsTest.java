import java.util.stream.IntStream;

/** The bounds that "Texts" and the promises 42 to 44 name, a run for each sentence. */
public final class TextBoundsTest {
  public static void main(String[] args) {
    descriptions();
    coordinates();
    weights();
    tags();
    spaces();
    withoutWeightOrTag();
    endsTooEarly();
    cannotContinue();
    beyond();
    minusZero();
    promise42();
    promise43Emptied();
    promise43Invalid();
    promise43Number();
    promise43Limits();
    promise43Order();
    promise44();
    Check.end();
  }

  /** The text has no fault and describes points, each told by coordinates, weight and tag. */
  private static void describes(String sentence, String text, int[]... points) {
    Run run = Run.of("Texts", sentence).text(text).due("read()", points.length)
        .due("faultPosition()", -1).due("count(0)", points.length);
    for (int id = 0; id < points.length; id++) {
      for (int axis = 0; axis < 3; axis++) {
        run.due("coordinate(" + id + ", " + axis + ")", points[id][axis]);
      }
      run.due("weight(" + id + ")", points[id][3]).due("tag(" + id + ")", points[id][4]);
    }
  }

  /** The sign ^ stands before the first character that cannot continue the text, or at its end. */
  private static void faults(String sentence, String... marked) {
    for (String one : marked) {
      int fault = one.indexOf('^');
      Run.of("Texts", sentence).text(one.substring(0, fault) + one.substring(fault + 1))
          .due("read()", Run.ILLEGAL)
          .due("faultPosition()", fault)
          .due("count(2)", 0);
    }
  }

  private static int[] point(int... numbers) {
    return numbers;
  }

  private static void descriptions() {
    String sentence = "A text for reading consists of one or more descriptions, separated by \";\".";
    faults(sentence, "^", "^;", "^;1,2,3", "1,2,3;^", "1,2,3;^;4,5,6", "1,2,3;4,5,6;^", "1,2,3^,4",
        "1,2,3^.4,5,6", "1,2,3:4#5;^");
    describes(sentence, "1,2,3", point(1, 2, 3, 1, 0));
    describes(sentence, "1,2,3;4,5,6", point(1, 2, 3, 1, 0), point(4, 5, 6, 1, 0));
    int[][] fifteen = IntStream.range(0, 15).mapToObj(i -> point(i % 10, 0, 0, 1, 0)).toArray(int[][]::new);
    StringBuilder text = new StringBuilder();
    for (int[] p : fifteen) {
      text.append(text.length() == 0 ? "" : ";").append(p[0]).append(",0,0");
    }
    describes(sentence, text.toString(), fifteen);
    faults(sentence, text + ";^");
    describes("A description consists of three coordinates, separated by \",\", then possibly \":\" and a "
        + "weight, then possibly \"#\" and a tag.", "1,2,3:4#5;6,7,8#9;10,11,12:13;14,15,16",
        point(1, 2, 3, 4, 5), point(6, 7, 8, 1, 9), point(10, 11, 12, 13, 0), point(14, 15, 16, 1, 0));
    faults("A description consists of three coordinates, separated by \",\"", "1^;2;3", "1,2^", "1,2^;3",
        "1,2,3^,4", "1^:2:3", "1,2^#3", "1^", "1,^,2,3", "^,1,2,3", "1,2^:4", "1,2^#4", "1^;2,3,4");
    faults("then possibly \":\" and a weight, then possibly \"#\" and a tag", "1,2,3#4^:5", "1,2,3:4^:5",
        "1,2,3#4^#5", "1,2,3:4#5^#6", "1,2,3:4#5^:6", "1,2,3:^#4");
  }

  private static void coordinates() {
    String digits = "A coordinate is a number of 1 to 3 digits";
    for (int axis = 0; axis < 3; axis++) {
      String before = new String[] {"", "5,", "-6,7,"}[axis];
      String after = new String[] {",8,9", ",9", ""}[axis];
      faults(digits, before + "^" + after, before + "100^0" + after,
          before + "-100^0" + after, before + "123^4" + after, before + "-^" + after);
      for (int value : new int[] {0, 1, 9, 10, 99, 100, -1, -9, -10, -99, -100}) {
        int[] due = {axis > 0 ? (axis == 1 ? 5 : -6) : value, axis == 1 ? value : axis == 2 ? 7 : 8,
            axis == 2 ? value : 9, 1, 0};
        describes(digits, before + value + after, due);
      }
      faults("without a leading zero, except 0 itself", before + "0^0" + after, before + "0^1" + after,
          before + "0^01" + after, before + "-0^0" + after, before + "-0^1" + after,
          before + "0^10" + after, before + "0^-1" + after);
      faults("possibly with a \"-\" before it", before + "-^-1" + after, before + "^+1" + after,
          before + "1^-" + after, before + "-^,", before + "-^" + after, before + "-^:1");
    }
  }

  private static void weights() {
    String sentence = "a weight is such a number of 1 or 2 digits without \"-\"";
    for (int weight : new int[] {0, 1, 9, 10, 99}) {
      describes(sentence, "1,2,3:" + weight, point(1, 2, 3, weight, 0));
      describes(sentence, "1,2,3:" + weight + "#4", point(1, 2, 3, weight, 4));
      describes(sentence, "1,2,3:" + weight + ";4,5,6", point(1, 2, 3, weight, 0), point(4, 5, 6, 1, 0));
    }
    faults(sentence, "1,2,3:^", "1,2,3:10^0", "1,2,3:99^9", "1,2,3:^-1", "1,2,3:^-0", "1,2,3:^;4,5,6",
        "1,2,3:^+1", "1,2,3:1^-");
    faults("a number of 1 to 3 digits without a leading zero, except 0 itself, possibly with a \"-\" before "
        + "it; a weight is such a number", "1,2,3:0^0", "1,2,3:0^1", "1,2,3:0^9#1");
  }

  private static void tags() {
    for (int tag : new int[] {0, 1, 9}) {
      describes("a tag is one digit", "1,2,3#" + tag, point(1, 2, 3, 1, tag));
      describes("a tag is one digit", "1,2,3#" + tag + ";4,5,6", point(1, 2, 3, 1, tag),
          point(4, 5, 6, 1, 0));
    }
    faults("a tag is one digit", "1,2,3#^", "1,2,3#1^0", "1,2,3#0^0", "1,2,3#0^1", "1,2,3#^-1",
        "1,2,3#^;", "1,2,3:4#^", "1,2,3:4#5^6", "1,2,3#^/", "1,2,3#^:");
  }

  private static void spaces() {
    String text = "1,-2,30:45#6;7,8,9";
    for (int i = 0; i <= text.length(); i++) {
      faults("There are no spaces.", text.substring(0, i) + "^ " + text.substring(i));
    }
  }

  private static void withoutWeightOrTag() {
    String sentence = "Without a weight it is 1, without a tag it is 0.";
    describes(sentence, "1,2,3", point(1, 2, 3, 1, 0));
    describes(sentence, "1,2,3:0;4,5,6#7;7,8,9:2#3;10,10,10", point(1, 2, 3, 0, 0),
        point(4, 5, 6, 1, 7), point(7, 8, 9, 2, 3), point(10, 10, 10, 1, 0));
  }

  private static void endsTooEarly() {
    faults("or the length of the text if it ends too early", "^", "-^", "1^", "12^", "123^", "-1^", "0^",
        "1,^", "1,-^", "1,2^", "1,2,^", "1,2,-^", "1,2,3:^", "1,2,3#^", "1,2,3:4#^", "1,2,3;^", "-0^",
        "1,2,3;-^", "1,2,3;4^", "1,2,3;4,^", "1,2,3;4,5^", "1,2,3;4,5,^", "1,2,3;4,5,6:^",
        "101^", "999,999^", "999,999,^");
  }

  private static void cannotContinue() {
    String sentence = "the index of its first character that cannot continue such a text";
    String[] befores = {"", "1,", "1,2,", "-", "1,2,3:", "1,2,3#", "1,2,3;"};
    char[] strange = {'/', ':', ';', '#', ',', '.', 'a', ' ', '\0', '\n', '+', '\u00e9', '\u0661', '\uffff'};
    for (String before : befores) {
      for (char c : strange) {
        faults(sentence, before + "^" + c + "1,1,1");
      }
    }
    String[] wholes = {"1", "1,2", "1,2,3", "1,2,3:4", "1,2,3#4", "1,2,3:45", "1,2,3:45#6"};
    String[] mays = {",0123456789", ",0123456789", ";:#0123456789", ";#0123456789", ";", ";#", ";"};
    for (int i = 0; i < wholes.length; i++) {
      for (char c = 0; c < 256; c++) {
        if (mays[i].indexOf(c) < 0) {
          faults(sentence, wholes[i] + "^" + c);
        }
      }
    }
    faults(sentence, "1,2,3;4,5,6;^x", "^x,x", "1,^x,x", "1,2,3:4#5;6,7,8:9#^a");
  }

  private static void beyond() {
    String sentence = "a coordinate that is not from -100 to 100 makes the text invalid";
    String[] texts = {"$,2,3", "1,$,3", "1,2,$", "1,2,3;$,5,6", "1,2,3;4,$,6;7,8,9", "1,2,$:3#4",
        "1,2,$;4,5,6"};
    for (String text : texts) {
      for (int value : new int[] {101, -101, 110, 200, 999, -999}) {
        Run.of("Texts", sentence)
            .text("x").due("read()", Run.ILLEGAL)
            .text(text.replace("$", "" + value))
            .due("read()", Run.ILLEGAL)
            .due("faultPosition()", -1)
            .due("count(2)", 0);
      }
      for (int value : new int[] {100, -100}) {
        Run.of("Texts", sentence)
            .text(text.replace("$", "" + value))
            .due("read()", (int) text.chars().filter(c -> c == ';').count() + 1);
      }
    }
    faults("coordinates beyond 100 and \"-0\" are no fault in this sense", "101,2,3^x", "101,2^", "101,0^1",
        "-999,999,999^9", "-0,2,3^x", "101,-0,3;^", "1,2,101:^");
  }

  private static void minusZero() {
    describes("\"-0\" is 0", "-0,0,-0", point(0, 0, 0, 1, 0));
    describes("\"-0\" is 0", "1,-0,2:3#4;-0,-0,-0", point(1, 0, 2, 3, 4), point(0, 0, 0, 1, 0));
    faults("\"-0\" is 0", "-0^0,1,2", "-0^5,1,2", "-0^");
  }

  private static void promise42() {
    String sentence = "Throws IllegalStateException if the buffer contains 90 characters";
    String text = "0,0,0;".repeat(15);
    Run.of("42 append", sentence)
        .text(text)
        .refusesSign(';', Run.BAD_STATE)
        .refusesSign('0', Run.BAD_STATE)
        .refusesSign('\uffff', Run.BAD_STATE)
        .due("read()", Run.ILLEGAL)
        .due("faultPosition()", 90)
        .text(text)
        .refusesSign('0', Run.BAD_STATE);
    Run.rich("42 append", sentence)
        .text("0,0,0;".repeat(13) + "#####")
        .refusesSign('#', Run.BAD_STATE);
    Run.of("42 append", "Appends a character to the text buffer.")
        .text(text.substring(0, 84) + "1,2,-3")
        .due("read()", 15)
        .due("coordinate(14, 2)", -3);
    Run.of("42 append", "the character")
        .text("\0\uffff\u00e9").due("read()", Run.ILLEGAL).due("faultPosition()", 0)
        .text("1,2,3").due("read()", 1);
  }

  private static void promise43Emptied() {
    String sentence = "The buffer is emptied, also if an exception is thrown; then no point is created.";
    String[] refused = {"1,2,3;4", "1,2,3;4,5,101", "1,2,3;", "x", "1,2,3;1,2,3;x"};
    for (String text : refused) {
      Run run = Run.of("43 read", sentence).line(0, 3).calls("exclude(5, true)", "open(0)", "next()", "save()");
      String state = run.state();
      run.text(text).due("read()", Run.ILLEGAL)
          .same("behind " + text, run.state(), state)
          .due("next()", 1)
          .text("7,8,9").due("read()", 1).due("coordinate(3, 0)", 7);
    }
    Run.of("43 read", sentence)
        .text("1,2,3").due("read()", 1)
        .due("read()", Run.ILLEGAL).due("faultPosition()", 0)
        .text("4,5,6").due("read()", 1).due("count(2)", 2);
    Run full = Run.of("43 read", sentence).line(0, 60).calls("rebuild()", "open(0)", "next()");
    String state = full.state();
    full.text("1,2,3").due("read()", Run.BAD_STATE)
        .same("behind a read beyond 60 live points", full.state(), state)
        .due("next()", 15)
        .due("read()", Run.ILLEGAL).due("faultPosition()", 0);
  }

  private static void promise43Invalid() {
    Run.of("43 read", "Throws IllegalArgumentException if the text has a fault or is invalid")
        .due("read()", Run.ILLEGAL)
        .text("1,2,3x").due("read()", Run.ILLEGAL)
        .text("1,2,101").due("read()", Run.ILLEGAL)
        .text("1,2,100").due("read()", 1);
    Run.of("43 read", "creates the points described, from left to right")
        .at(9, 9, 9)
        .text("1,0,0;2,0,0:3#4;3,0,0").due("read()", 3)
        .due("coordinate(1, 0)", 1).due("coordinate(2, 0)", 2).due("coordinate(3, 0)", 3)
        .due("weight(2)", 3).due("tag(2)", 4);
    Run read = Run.of("43 read", "creates the points described, from left to right")
        .text("1,1,1;2,2,2;3,3,3;4,4,4;5,5,5").due("read()", 5);
    Run inserted = Run.of("43 read", "creates the points described").line(1, 6);
    read.same("as by insert", read.state(), inserted.state());
  }

  private static void promise43Number() {
    String sentence = "Returns the number of points created.";
    Run.of("43 read", sentence).line(0, 2)
        .text("1,2,3").due("read()", 1)
        .text("1,2,3;1,2,3:0#0").due("read()", 2)
        .due("count(2)", 5);
    Run full = Run.of("43 read", sentence);
    for (int i = 0; i < 4; i++) {
      full.text("0,0,0;".repeat(14) + "0,0,0").due("read()", 15);
    }
    full.due("count(0)", 60).text("0,0,0").due("read()", Run.BAD_STATE);
  }

  private static void promise43Limits() {
    String sentence = "Throws IllegalStateException if there would be more than 60 live points or 200 points "
        + "created";
    Run live = Run.of("43 read", sentence).line(0, 58);
    String before = live.state();
    live.text("1,1,1;2,2,2;3,3,3").due("read()", Run.BAD_STATE)
        .due("faultPosition()", -1)
        .same("behind 61 live points", live.state(), before)
        .text("1,1,1;2,2,2").due("read()", 2)
        .due("count(0)", 60)
        .text("1,1,1").due("read()", Run.BAD_STATE)
        .calls("remove(0)")
        .text("1,1,1").due("read()", 1)
        .due("count(0)", 60);
    Run created = Run.of("43 read", sentence).turnover(198).calls("remove(197)", "remove(196)", "remove(195)");
    String state = created.state();
    created.text("1,1,1;2,2,2;3,3,3").due("read()", Run.BAD_STATE)
        .same("behind 201 created", created.state(), state)
        .text("1,1,1;2,2,2").due("read()", 2)
        .due("count(2)", 200)
        .text("1,1,1").due("read()", Run.BAD_STATE)
        .due("count(0)", 58);
  }

  private static void promise43Order() {
    String sentence = "the one that is listed first determines the exception";
    Run full = Run.of("Exceptions", sentence).line(0, 60);
    for (String text : new String[] {"", "x", "1,2,3;", "1,2,101", "1,2,3;1,2,3;1,-101,3"}) {
      full.text(text).due("read()", Run.ILLEGAL);
    }
    full.text("1,2,3").due("read()", Run.BAD_STATE);
  }

  private static void promise44() {
    String sentence = "Returns the fault position, or -1 if the text had no fault or read has not been called.";
    Run.of("44 faultPosition", sentence)
        .due("faultPosition()", -1)
        .text("1,2x").due("faultPosition()", -1)
        .due("read()", Run.ILLEGAL).due("faultPosition()", 3)
        .text("1,2,3").due("faultPosition()", 3)
        .due("read()", 1).due("faultPosition()", -1)
        .due("read()", Run.ILLEGAL).due("faultPosition()", 0)
        .text("1,2,300").due("read()", Run.ILLEGAL).due("faultPosition()", -1)
        .text("1,2,").due("read()", Run.ILLEGAL).due("faultPosition()", 4);
    Run.of("44 faultPosition", "Returns the fault position of the text of the latest call of read.")
        .line(0, 60)
        .text("x").due("read()", Run.ILLEGAL).due("faultPosition()", 0)
        .text("1,2,3").due("read()", Run.BAD_STATE).due("faultPosition()", -1);
  }
}
