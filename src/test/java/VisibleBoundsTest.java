/** The bounds that the promises 27 to 32 name, a run for each sentence. */
public final class VisibleBoundsTest {
  private static final int LEAST = Run.LEAST;
  private static final int GREATEST = Run.GREATEST;
  /** Not visible in the run of Rich: not created, 10 and 11 removed, 8 and 12 excluded. */
  private static final int[] NOT_VISIBLE = {-1, 13, 199, 200, LEAST, GREATEST, 8, 10, 11, 12};

  public static void main(String[] args) {
    promise27();
    promise28();
    promise29();
    promise29Ties();
    promise30();
    promise30Ties();
    promise31();
    promise32();
    Check.end();
  }

  private static void promise27() {
    Run.of("27 within", "have a distance from the query point of at most radius")
        .at(0, 0, 0).at(5, 0, 0).at(0, -5, 0).at(0, 0, 6)
        .due("within(0)", 1).due("within(4)", 1).due("within(5)", 3).due("within(6)", 4)
        .calls("query(1, 0, 0)")
        .due("within(0)", 0);
    Run.of("27 within", "the radius, any integer")
        .due("within(0)", 0).due("within(" + GREATEST + ")", 0)
        .at(0, 0, 0).at(100, 100, 100)
        .due("within(-1)", 0).due("within(" + LEAST + ")", 0)
        .due("within(" + GREATEST + ")", 2)
        .calls("setOption(2, 2)")
        .due("within(29999)", 1).due("within(30000)", 2);
    Run.rich("27 within", "Returns how many visible points")
        .due("within(" + GREATEST + ")", 9)
        .calls("exclude(5, false)").due("within(" + GREATEST + ")", 11);
    Run.of("27 within", "Returns how many visible points").line(0, 60)
        .due("within(177)", 60).due("within(176)", 59);
  }

  private static void promise28() {
    Run.of("28 influence", "the radius, any integer")
        .due("influence(0)", 0.0).due("influence(" + GREATEST + ")", 0.0)
        .calls("insert(0, 0, 0, 99, 0)", "insert(3, 0, 0, 2, 0)")
        .due("influence(-1)", 0.0).due("influence(" + LEAST + ")", 0.0)
        .due("influence(" + GREATEST + ")", 99.5);
    Run.of("28 influence", "with a distance of at most radius")
        .calls("insert(0, 0, 0, 3, 0)", "insert(1, 0, 0, 5, 0)", "insert(0, 3, 0, 7, 0)",
            "insert(0, 0, -3, 1, 0)")
        .due("influence(0)", 3.0).due("influence(1)", 5.5).due("influence(2)", 5.5)
        .due("influence(3)", 7.5);
    Run.of("28 influence", "the sum, over the visible points")
        .calls("insert(0, 0, 0, 3, 1)", "insert(1, 0, 0, 5, 2)", "insert(0, 1, 0, 7, 3)",
            "exclude(2, true)")
        .due("influence(9)", 6.5)
        .calls("remove(0)").due("influence(9)", 3.5)
        .calls("exclude(3, true)").due("influence(9)", 0.0);
    Run.of("28 influence", "each summand being the quotient of two doubles")
        .calls("insert(2, 0, 0, 1, 0)").due("influence(2)", 1.0 / 3.0)
        .calls("insert(0, 4, 0, 2, 0)").due("influence(4)", 0.0 + 1.0 / 3.0 + 2.0 / 5.0)
        .calls("insert(0, 0, 9, 0, 0)").due("influence(9)", 0.0 + 1.0 / 3.0 + 2.0 / 5.0);
    // The same summands in another order would give another double.
    Run.of("28 influence", "in ascending order of their numbers")
        .calls("insert(9, 0, 0, 1, 0)", "insert(4, 0, 0, 1, 0)", "insert(9, 0, 0, 3, 0)")
        .due("influence(9)", 0.0 + 1.0 / 10.0 + 1.0 / 5.0 + 3.0 / 10.0);
    Run.of("28 influence", "in ascending order of their numbers")
        .calls("insert(9, 0, 0, 3, 0)", "insert(4, 0, 0, 1, 0)", "insert(9, 0, 0, 1, 0)")
        .due("influence(9)", 0.0 + 3.0 / 10.0 + 1.0 / 5.0 + 1.0 / 10.0);
  }

  private static void promise29() {
    String fewer = "Throws NoSuchElementException if fewer than two points are visible";
    Run.of("29 closestPair", fewer)
        .refusesEach("closestPair($)", Run.MISSING, 0, 1, 2)
        .calls("insert(7, 0, 0, 1, 0)")
        .refusesEach("closestPair($)", Run.MISSING, 0, 1, 2)
        .calls("insert(0, 7, 0, 1, 1)")
        .due("closestPair(0)", 0).due("closestPair(1)", 1).due("closestPair(2)", 14)
        .calls("exclude(1, true)")
        .refusesEach("closestPair($)", Run.MISSING, 0, 1, 2)
        .calls("exclude(1, false)", "remove(0)")
        .refusesEach("closestPair($)", Run.MISSING, 0, 1, 2);
    Run.rich("29 closestPair", "Throws IllegalArgumentException if what is not from 0 to 2")
        .refusesEach("closestPair($)", Run.ILLEGAL, -1, 3, LEAST, GREATEST);
  }

  private static void promise29Ties() {
    Run.of("29 closestPair", "among several the one with the smallest i, then with the smallest j")
        .at(50, 0, 0).at(0, 0, 0).at(-50, 0, 0).at(0, 3, 0).at(0, 0, 3).at(-50, 3, 0).at(50, 0, 3)
        .due("closestPair(0)", 0).due("closestPair(1)", 6).due("closestPair(2)", 3)
        .calls("remove(0)")
        .due("closestPair(0)", 1).due("closestPair(1)", 3).due("closestPair(2)", 3)
        .calls("remove(3)")
        .due("closestPair(0)", 1).due("closestPair(1)", 4).due("closestPair(2)", 3)
        .calls("remove(4)")
        .due("closestPair(0)", 2).due("closestPair(1)", 5).due("closestPair(2)", 3);
    Run.of("29 closestPair", "the pair i < j with the smallest distance")
        .at(0, 0, 0).at(5, 0, 0).at(9, 0, 0)
        .due("closestPair(0)", 1).due("closestPair(1)", 2).due("closestPair(2)", 4)
        .at(0, 0, 0)
        .due("closestPair(0)", 0).due("closestPair(1)", 3).due("closestPair(2)", 0);
  }

  private static void promise30() {
    String throwing = "Throws NoSuchElementException if there is no such visible point";
    Run.rich("30 followers", throwing).refusesEach("followers($)", Run.MISSING, NOT_VISIBLE);
    Run.of("30 followers", throwing)
        .refusesEach("followers($)", Run.MISSING, 0, -1)
        .at(0, 0, 0)
        .due("followers(0)", 0)
        .refuses("followers(1)", Run.MISSING)
        .calls("exclude(0, true)")
        .refuses("followers(0)", Run.MISSING);
    Run.of("30 followers", "their nearest one among all other visible points")
        .calls("insert(0, 0, 0, 1, 0)", "insert(1, 0, 0, 1, 1)", "insert(3, 0, 0, 1, 2)")
        .due("followers(0)", 1).due("followers(1)", 2).due("followers(2)", 0)
        .calls("exclude(1, true)")
        .due("followers(0)", 1).due("followers(2)", 1)
        .calls("remove(2)")
        .due("followers(0)", 0);
    Run.of("30 followers", "their nearest one among all other visible points")
        .calls("insert(0, 0, 0, 1, 0)", "insert(5, 0, 0, 1, 0)", "insert(1, 0, 0, 1, 1)")
        .due("followers(2)", 2).due("followers(1)", 0)
        .calls("exclude(1, true)")
        .due("followers(1)", 1).due("followers(0)", 1)
        .calls("exclude(1, false)", "remove(2)")
        .due("followers(1)", 1).due("followers(0)", 1);
  }

  private static void promise30Ties() {
    Run.of("30 followers", "equal distances are decided by the smallest number")
        .at(0, 0, 0).at(-4, 0, 0).at(4, 0, 0).at(0, 4, 0)
        .due("followers(0)", 3).due("followers(1)", 1).due("followers(2)", 0).due("followers(3)", 0)
        .at(0, 0, 0)
        .due("followers(0)", 4).due("followers(4)", 1).due("followers(1)", 0);
    Run same = Run.of("30 followers", "equal distances are decided by the smallest number")
        .turnover(60).at(1, 2, 3);
    // Point 0 is removed; the others have 1, and this one has 2.
    same.due("followers(1)", 59).due("followers(2)", 1).due("followers(60)", 0);
  }

  private static void promise31() {
    Run.of("31 clusters", "Returns the number of clusters of the visible points")
        .due("clusters(0)", 0).due("clusters(-1)", 0).due("clusters(" + GREATEST + ")", 0)
        .due("clusters(" + LEAST + ")", 0)
        .calls("insert(0, 0, 0, 1, 0)")
        .due("clusters(0)", 1).due("clusters(-1)", 1)
        .calls("exclude(0, true)")
        .due("clusters(0)", 0).due("clusters(" + GREATEST + ")", 0);
    Run.of("31 clusters", "the radius, any integer")
        .at(-100, -100, -100).at(100, 100, 100).at(100, 100, 100)
        .due("clusters(-1)", 3).due("clusters(" + LEAST + ")", 3)
        .due("clusters(0)", 2).due("clusters(599)", 2).due("clusters(600)", 1)
        .due("clusters(" + GREATEST + ")", 1);
    Run.of("31 clusters", "consecutive ones have a distance of at most radius")
        .at(0, 0, 0).at(6, 0, 0).at(3, 0, 0).at(9, 0, 0)
        .due("clusters(2)", 4).due("clusters(3)", 1)
        .calls("remove(2)")
        .due("clusters(3)", 2).due("clusters(6)", 1);
    Run.of("31 clusters", "a sequence of visible points from one to the other")
        .calls("insert(0, 0, 0, 1, 0)", "insert(3, 0, 0, 1, 1)", "insert(6, 0, 0, 1, 0)")
        .due("clusters(3)", 1)
        .calls("exclude(1, true)")
        .due("clusters(3)", 2);
    Run.of("31 clusters", "there is a sequence of visible points from one to the other").line(0, 60)
        .due("clusters(2)", 60).due("clusters(3)", 1);
  }

  private static void promise32() {
    String throwing = "Throws NoSuchElementException if there is no such visible point";
    Run.rich("32 clusterOf", throwing)
        .refusesEach("clusterOf($, 0)", Run.MISSING, NOT_VISIBLE)
        .refuses("clusterOf(8, " + LEAST + ")", Run.MISSING)
        .refuses("clusterOf(13, " + GREATEST + ")", Run.MISSING);
    Run.of("32 clusterOf", throwing).refusesEach("clusterOf($, 0)", Run.MISSING, 0, -1);
    Run.of("32 clusterOf", "the radius, any integer")
        .at(-100, -100, -100).at(100, 100, 100).at(100, 100, 100)
        .due("clusterOf(2, -1)", 2).due("clusterOf(2, " + LEAST + ")", 2)
        .due("clusterOf(2, 0)", 1).due("clusterOf(2, 599)", 1).due("clusterOf(2, 600)", 0)
        .due("clusterOf(2, " + GREATEST + ")", 0);
    Run.of("32 clusterOf", "Returns the smallest number of a point of its cluster.")
        .at(9, 0, 0).at(0, 0, 0).at(3, 0, 0).at(6, 0, 0)
        .dueForEach("clusterOf($, 3)", 0, 0, 1, 2, 3)
        .calls("remove(0)")
        .dueForEach("clusterOf($, 3)", 1, 1, 2, 3)
        .calls("remove(2)")
        .due("clusterOf(3, 3)", 3).due("clusterOf(1, 3)", 1).due("clusterOf(3, 6)", 1);
    Run.of("32 clusterOf", "Returns the smallest number of a point of its cluster.").line(0, 60)
        .due("clusterOf(59, 3)", 0).due("clusterOf(59, 2)", 59);
  }
}
