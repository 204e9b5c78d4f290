import java.util.ArrayList;
import java.util.List;

/**
 * A test of one sentence of the document: a run of calls on a new object, each told as it is
 * written, with the answer that is due. It keeps to the number of calls for which the document
 * promises anything.
 */
final class Run {
  static final int MOST_CALLS = 512;
  static final int LEAST = -2147483648;
  static final int GREATEST = 2147483647;
  static final String ILLEGAL = "IllegalArgumentException";
  static final String MISSING = "NoSuchElementException";
  static final String BAD_STATE = "IllegalStateException";
  static final String BAD_INDEX = "IndexOutOfBoundsException";
  static final String BAD_ARITHMETIC = "ArithmeticException";

  private final String sentence;
  private final List<Step> steps = new ArrayList<>();
  private final SpatialPoints object = new SpatialPoints();
  private int made = 0;
  private String portrait = null;

  private Run(String sentence) {
    this.sentence = sentence;
  }

  /** where: a paragraph of "Description", or the number and the name of a promise. */
  static Run of(String where, String sentence) {
    Check.countRun();
    return new Run(where + ", \"" + sentence + "\"");
  }

  /** In this run a bit of everything has happened: see Rich. */
  static Run rich(String where, String sentence) {
    return Rich.made(of(where, sentence));
  }

  private Object make(Step step) {
    made++;
    if (made > MOST_CALLS) {
      throw new AssertionError("more calls than the document promises in " + sentence);
    }
    return step.on(object);
  }

  private Object keep(Step step) {
    steps.add(step);
    portrait = null;
    return make(step);
  }

  Run due(String call, Object want) {
    Check.due(sentence + ": " + call, () -> keep(Step.of(call)), want);
    return this;
  }

  /** For each argument: the call with it in place of the sign $ answers want. */
  Run dueForEach(String call, Object want, int... arguments) {
    for (int argument : arguments) {
      due(call.replace("$", "" + argument), want);
    }
    return this;
  }

  /** Calls that lead to where the sentence tells; none of them throws. */
  Run calls(String... calls) {
    for (String call : calls) {
      Check.done(sentence + ": " + call, () -> keep(Step.of(call)));
    }
    return this;
  }

  Object ask(String call) {
    Object[] answer = new Object[1];
    Check.done(sentence + ": " + call, () -> answer[0] = keep(Step.of(call)));
    return answer[0];
  }

  int number(String call) {
    Object answer = ask(call);
    return answer instanceof Integer ? (Integer) answer : LEAST;
  }

  Run at(int x, int y, int z) {
    return calls("insert(" + x + ", " + y + ", " + z + ", 1, 0)");
  }

  /** The points from number on, before number end, each at its own number on all axes. */
  Run line(int number, int end) {
    for (int i = number; i < end; i++) {
      at(i, i, i);
    }
    return this;
  }

  /** Points at one place, until so many are created; before that, at most 59 are live. */
  Run turnover(int created) {
    for (int i = 0; i < created; i++) {
      if (i >= 59) {
        calls("remove(" + (i - 59) + ")");
      }
      at(1, 2, 3);
    }
    return this;
  }

  /** The place of a point in scatter; on each axis no two of 200 points have the same coordinate. */
  static int scattered(int id, int axis) {
    int step = axis == 0 ? 37 : axis == 1 ? 53 : 71;
    return id * step % 201 - 100;
  }

  /** As turnover, but at places all over the space. */
  Run scatter(int created) {
    for (int i = 0; i < created; i++) {
      if (i >= 59) {
        calls("remove(" + (i - 59) + ")");
      }
      at(scattered(i, 0), scattered(i, 1), scattered(i, 2));
    }
    return this;
  }

  Run text(String text) {
    for (char c : text.toCharArray()) {
      Check.done(sentence + ": append of " + text, () -> keep(Step.append(c)));
    }
    return this;
  }

  /** The call throws, and behind it every answer is as it would have been without it. */
  Run refuses(String call, String exception) {
    return refuses(call, Step.of(call), exception);
  }

  Run refusesSign(char c, String exception) {
    return refuses("append(" + (int) c + ")", Step.append(c), exception);
  }

  private Run refuses(String call, Step step, String exception) {
    if (portrait == null) {
      portrait = Portrait.of(steps);
    }
    Check.due(sentence + ": " + call, () -> make(step), exception);
    List<Step> behind = new ArrayList<>(steps);
    behind.add(step);
    Check.same(sentence + ": behind " + call, Portrait.of(behind), portrait);
    return this;
  }

  /** For each argument: the call with it in place of the sign $ is refused. */
  Run refusesEach(String call, String exception, int... arguments) {
    for (int argument : arguments) {
      refuses(call.replace("$", "" + argument), exception);
    }
    return this;
  }

  /** Everything that can be seen of the object, and what a snapshot holds of it. */
  String portrait() {
    return Portrait.of(steps);
  }

  String state() {
    return Portrait.ofState(steps);
  }

  Run same(String what, String got, String want) {
    Check.same(sentence + ": " + what, got, want);
    return this;
  }
}
