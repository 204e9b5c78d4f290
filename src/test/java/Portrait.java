import java.util.ArrayList;
import java.util.List;

/**
 * All that an object answers behind a run of calls, a line for each question. The run is made again
 * whenever the questions would go beyond the calls for which the document promises anything.
 */
final class Portrait {
  private static final int[] LEAST_VALUES = {55, 10, 0, 1, 1, 1};
  private static final int MOST_SIGNS = 90;

  private final List<Step> steps;
  private final StringBuilder view = new StringBuilder();
  private SpatialPoints object;
  private int left;

  private Portrait(List<Step> steps) {
    this.steps = steps;
  }

  /** Everything. */
  static String of(List<Step> steps) {
    Portrait portrait = new Portrait(steps);
    portrait.addState();
    portrait.addCursor();
    portrait.addText();
    portrait.addSnapshot();
    return portrait.view.toString();
  }

  /** What a snapshot holds. */
  static String ofState(List<Step> steps) {
    Portrait portrait = new Portrait(steps);
    portrait.addState();
    return portrait.view.toString();
  }

  private void renew() {
    object = new SpatialPoints();
    for (Step step : steps) {
      Check.answer(() -> step.on(object));
    }
    left = Run.MOST_CALLS - steps.size();
  }

  private Object ask(String told) {
    return ask(told, Step.of(told));
  }

  private Object ask(String told, Step step) {
    if (left == 0) {
      renew();
    }
    left--;
    Object answer = Check.answer(() -> step.on(object));
    view.append(told).append(" answers ").append(answer).append('\n');
    return answer;
  }

  private void addState() {
    renew();
    for (int what = 0; what < 4; what++) {
      ask("count(" + what + ")");
      ask("rebuilds(" + what + ")");
    }
    addQueries();
    int created = (Integer) ask("count(2)");
    for (int id = -1; id <= created; id++) {
      addPoint(id);
    }
    int visible = (Integer) ask("count(3)");
    for (int index = 0; index <= visible; index++) {
      ask("nearest(" + index + ")");
      ask("boxPoint(" + index + ")");
    }
    addSettings();
    addQueryPoint(created);
  }

  private void addQueries() {
    String[] calls = {"height()", "root()", "farthest()", "within(20)", "influence(20)",
        "clusters(5)", "inBox()", "boxWeight()", "visits()"};
    for (String call : calls) {
      ask(call);
    }
    for (int i = 0; i < 3; i++) {
      ask("closestPair(" + i + ")");
      ask("center(" + i + ")");
    }
  }

  private void addPoint(int id) {
    String[] names = {"isLive", "weight", "tag", "parent", "depth", "distance", "boxDistance",
        "followers"};
    for (String name : names) {
      ask(name + "(" + id + ")");
    }
    ask("clusterOf(" + id + ", 10)");
    for (int i = 0; i < 3; i++) {
      ask("coordinate(" + id + ", " + i + ")");
      ask("bound(" + id + ", " + i + ", 0)");
      ask("bound(" + id + ", " + i + ", 1)");
    }
    for (int side = 0; side < 2; side++) {
      ask("child(" + id + ", " + side + ")");
      ask("subtree(" + id + ", " + side + ")");
    }
  }

  private void addSettings() {
    renew();
    for (int option = 0; option < LEAST_VALUES.length; option++) {
      ask("setOption(" + option + ", " + LEAST_VALUES[option] + ")");
    }
    for (int tag = 0; tag < 10; tag++) {
      ask("exclude(" + tag + ", false)");
    }
  }

  /** From a point at the end of all ranges, three distances tell the query point. */
  private void addQueryPoint(int created) {
    renew();
    ask("insert(-100, -100, -100, 1, 0)");
    ask("setOption(2, 3)");
    for (int axis = 0; axis < 3; axis++) {
      for (int i = 0; i < 3; i++) {
        ask("setOption(" + (3 + i) + ", " + (i == axis ? 9 : 1) + ")");
      }
      ask("distance(" + created + ")");
    }
  }

  private void addCursor() {
    renew();
    Object more = true;
    while (Boolean.TRUE.equals(more)) {
      more = ask("hasNext()");
      ask("next()");
    }
  }

  private void addText() {
    renew();
    ask("faultPosition()");
    ask("read()");
    ask("faultPosition()");
    int last = (Integer) ask("count(2)") - 1;
    for (int axis = 0; axis < 3; axis++) {
      ask("coordinate(" + last + ", " + axis + ")");
    }
    ask("weight(" + last + ")");
    ask("tag(" + last + ")");
    renew();
    Step sign = Step.append('0');
    for (int i = 0; i <= MOST_SIGNS; i++) {
      ask("append", sign);
    }
  }

  private void addSnapshot() {
    renew();
    if (ask("restore()").equals("done")) {
      List<Step> restored = new ArrayList<>(steps);
      restored.add(Step.of("restore()"));
      view.append("behind restore():\n").append(ofState(restored));
    }
  }
}
