/** Promises 16 to 21: a test of its own for each sentence that names an edge. */
public final class EdgesOfAgesTest {
  private static final int MIN = Integer.MIN_VALUE;
  private static final int MAX = Integer.MAX_VALUE;
  private static final int[] NO_TABLES = {-1, -2, -16, 6, 15, 16, 17, 32, 1 << 29, MIN, MAX};

  public static void main(String[] args) {
    todayIsADay();
    todayAgain();
    todayBeforeToday();
    todayOfNoDay();
    fedIsAsTold();
    fedOfNoneSuch();
    fedOfNoSource();
    fedWithOldestAboveNewest();
    fedAboveToday();
    fedBelowZero();
    runOfACopy();
    runOfNoneSuch();
    runWithOneThatHasNoAge();
    runOverFrozenOnes();
    promiseOfEachKind();
    promiseOfNoneAnyMore();
    promiseOfNoneSuch();
    promiseThatCannotBe();
    brokenInOrder();
    brokenOfNone();
    brokenOfAllSixteen();
    brokenOfNoneGone();
    lateOfOneThatIsKept();
    lateOfOneWithoutAPromise();
    lateOfNoneSuch();
    lateOfOneWithNoAge();
    lateOverTheLastLag();
    Due.close();
  }

  private static void age(TableCatalog x, int t, int oldest, int newest) {
    Due.is("table(" + t + ", 6)", x.table(t, 6), oldest);
    Due.is("table(" + t + ", 7)", x.table(t, 7), newest);
  }

  /** All kinds: 0 and 1 SOURCES, 2 a VIEW, 3 and 4 COPIES, 5 a FROZEN one; TODAY is 50. */
  private static TableCatalog kinds() {
    TableCatalog x = Due.two();
    Due.made(x, "view v = c : 1 from a;", 2);
    Due.made(x, "copy w = c : 1 from v, b;", 3);
    Due.made(x, "copy u = c : 1 from a;", 4);
    Due.made(x, "copy z = c : 1 from a, b;", 5);
    Due.is("freeze(5)", x.freeze(5), true);
    Due.is("today(50)", x.today(50), true);
    return x;
  }

  // ---- 16

  private static void todayIsADay() {
    Due.by("16: TODAY is a day: true");
    TableCatalog x = Due.two();
    for (int day : new int[] {1, 2, 1000, 29999, 30000}) {
      Due.is("fed(0, 0, " + day + ") the day ahead", x.fed(0, 0, day), false);
      Due.is("today(" + day + ")", x.today(day), true);
      Due.is("fed(0, 0, " + day + ")", x.fed(0, 0, day), true);
    }
  }

  private static void todayAgain() {
    Due.by("16: false if it is before TODAY (not, if it is TODAY)");
    TableCatalog x = Due.two();
    for (int day : new int[] {0, 7, 30000}) {
      Due.is("today(" + day + ")", x.today(day), true);
      Due.is("today(" + day + ") again", x.today(day), true);
      Due.is("fed(0, 0, " + day + ")", x.fed(0, 0, day), true);
    }
  }

  private static void todayBeforeToday() {
    Due.by("16: false if it is before TODAY");
    TableCatalog x = Due.two();
    x.today(100);
    for (int day : new int[] {99, 98, 1, 0}) {
      Due.is("today(" + day + ")", x.today(day), false);
    }
    Due.is("fed(0, 0, 100), as it was", x.fed(0, 0, 100), true);
    Due.is("today(101)", x.today(101), true);
    Due.is("today(100)", x.today(100), false);
    Due.is("fed(0, 0, 101)", x.fed(0, 0, 101), true);
    x.today(30000);
    Due.is("today(29999)", x.today(29999), false);
    Due.is("fed(0, 0, 30000)", x.fed(0, 0, 30000), true);
  }

  private static void todayOfNoDay() {
    Due.by("16: false if it is none");
    TableCatalog x = Due.two();
    for (int day : new int[] {-1, -2, -30000, MIN, 30001, 30002, 65536, MAX}) {
      Due.is("today(" + day + ")", x.today(day), false);
      Due.is("fed(0, 0, 1), as it was", x.fed(0, 0, 1), false);
    }
    x.promise(0, 0);
    x.fed(0, 0, 0);
    Due.found(x, "broken, as it was", x.broken());
    Due.is("today(30000)", x.today(30000), true);
    Due.is("today(30001)", x.today(30001), false);
    Due.is("fed(0, 0, 30001)", x.fed(0, 0, 30001), false);
  }

  // ---- 17

  private static void fedIsAsTold() {
    Due.by("17: The AGE of a SOURCE: true (from the first day to TODAY)");
    TableCatalog x = kinds();
    int[][] ages = {{0, 0}, {0, 50}, {50, 50}, {49, 50}, {1, 2}, {0, 1}};
    for (int[] told : ages) {
      Due.is("fed(0, " + told[0] + ", " + told[1] + ")", x.fed(0, told[0], told[1]), true);
      age(x, 0, told[0], told[1]);
      age(x, 2, told[0], told[1]);
      age(x, 1, -1, -1);
    }
  }

  private static void fedOfNoneSuch() {
    Due.by("17: false when there is none such");
    TableCatalog x = kinds();
    for (int t : NO_TABLES) {
      Due.is("fed(" + t + ", 1, 2)", x.fed(t, 1, 2), false);
    }
    age(x, 0, -1, -1);
    age(x, 1, -1, -1);
    x.drop(3);
    x.drop(1);
    Due.is("fed(1, 1, 2), gone", x.fed(1, 1, 2), false);
    age(x, 1, -1, -1);
  }

  private static void fedOfNoSource() {
    Due.by("17: The AGE of a SOURCE: false when there is none such");
    TableCatalog x = kinds();
    for (int t = 2; t < 6; t++) {
      Due.is("fed(" + t + ", 1, 2)", x.fed(t, 1, 2), false);
      age(x, t, -1, -1);
    }
  }

  private static void fedWithOldestAboveNewest() {
    Due.by("17: false when oldest is above newest");
    TableCatalog x = kinds();
    Due.is("fed(0, 1, 0), no AGE yet", x.fed(0, 1, 0), false);
    age(x, 0, -1, -1);
    x.fed(0, 10, 20);
    int[][] wrong = {{21, 20}, {11, 10}, {50, 0}, {50, 49}, {MAX, 50}, {MAX, 0}, {51, 50}};
    for (int[] told : wrong) {
      Due.is("fed(0, " + told[0] + ", " + told[1] + ")", x.fed(0, told[0], told[1]), false);
      age(x, 0, 10, 20);
    }
    Due.is("fed(0, 20, 20), both the same", x.fed(0, 20, 20), true);
    age(x, 0, 20, 20);
  }

  private static void fedAboveToday() {
    Due.by("17: false when newest is above TODAY");
    TableCatalog x = kinds();
    x.fed(0, 10, 20);
    int[][] wrong = {{10, 51}, {51, 51}, {0, 30000}, {0, 30001}, {0, MAX}, {MAX, MAX}, {50, 51}};
    for (int[] told : wrong) {
      Due.is("fed(0, " + told[0] + ", " + told[1] + ")", x.fed(0, told[0], told[1]), false);
      age(x, 0, 10, 20);
      age(x, 2, 10, 20);
    }
    Due.is("fed(0, 10, 50), TODAY's", x.fed(0, 10, 50), true);
    Due.is("today(51)", x.today(51), true);
    Due.is("fed(0, 10, 51)", x.fed(0, 10, 51), true);
  }

  private static void fedBelowZero() {
    Due.by("17: false when it is below 0");
    TableCatalog x = kinds();
    x.fed(0, 10, 20);
    int[][] wrong = {{-1, 20}, {-1, 0}, {-1, -1}, {-2, -1}, {MIN, 20}, {MIN, MIN}, {MIN, MAX}, {-50, 50}};
    for (int[] told : wrong) {
      Due.is("fed(0, " + told[0] + ", " + told[1] + ")", x.fed(0, told[0], told[1]), false);
      age(x, 0, 10, 20);
    }
    Due.is("fed(0, 0, 20)", x.fed(0, 0, 20), true);
    age(x, 0, 0, 20);
  }

  // ---- 18

  private static void runOfACopy() {
    Due.by("18: A COPY is run: true");
    TableCatalog x = kinds();
    x.fed(0, 3, 4);
    Due.is("run(4)", x.run(4), true);
    age(x, 4, 3, 4);
    Due.is("run(4) again", x.run(4), true);
    age(x, 4, 3, 4);
    x.fed(1, 2, 5);
    Due.is("run(3)", x.run(3), true);
    age(x, 3, 2, 5);
    age(x, 4, 3, 4);
    x.today(30000);
    Due.is("run(3), days on", x.run(3), true);
    age(x, 3, 2, 5);
  }

  private static void runOfNoneSuch() {
    Due.by("18: false when there is none such");
    TableCatalog x = kinds();
    x.fed(0, 3, 4);
    x.fed(1, 3, 4);
    for (int t : NO_TABLES) {
      Due.is("run(" + t + ")", x.run(t), false);
    }
    Due.is("run(0), a SOURCE", x.run(0), false);
    Due.is("run(2), a VIEW", x.run(2), false);
    Due.is("run(5), a FROZEN one", x.run(5), false);
    age(x, 0, 3, 4);
    age(x, 2, 3, 4);
    age(x, 5, -1, -1);
    x.drop(4);
    Due.is("run(4), gone", x.run(4), false);
    age(x, 4, -1, -1);
  }

  private static void runWithOneThatHasNoAge() {
    Due.by("18: false when one behind its from has no AGE");
    for (int without = 0; without < 3; without++) {
      TableCatalog x = Due.two();
      Due.made(x, "table e (x n);", 2);
      Due.made(x, "copy w = c : 1 from a, b, e;", 3);
      Due.made(x, "view v = c : 1 from w;", 4);
      Due.is("run(3), none has", x.run(3), false);
      for (int t = 0; t < 3; t++) {
        if (t != without) {
          x.fed(t, 0, 0);
        }
      }
      Due.is("run(3), all but " + without, x.run(3), false);
      age(x, 3, -1, -1);
      age(x, 4, -1, -1);
      x.fed(without, 0, 0);
      age(x, 3, -1, -1);
      Due.is("run(3), all", x.run(3), true);
      age(x, 3, 0, 0);
      age(x, 4, 0, 0);
    }
    TableCatalog y = kinds();
    y.fed(1, 1, 1);
    Due.is("run(3), the VIEW behind it has none", y.run(3), false);
    Due.made(y, "copy q = c : 1 from b, u;", 6);
    Due.is("run(6), the COPY behind it was not run", y.run(6), false);
    y.fed(0, 2, 3);
    Due.is("run(6), still not run", y.run(6), false);
    Due.is("run(4)", y.run(4), true);
    Due.is("run(6)", y.run(6), true);
    age(y, 6, 1, 3);
  }

  private static void runOverFrozenOnes() {
    Due.by("18: false when one behind its from has no AGE (a FROZEN one's stays)");
    TableCatalog x = kinds();
    x.fed(0, 3, 4);
    x.run(4);
    x.freeze(4);
    x.fed(0, 9, 9);
    Due.made(x, "copy p = c : 1 from u;", 6);
    Due.made(x, "copy q = c : 1 from z, a;", 7);
    Due.is("run(6), FROZEN with an AGE", x.run(6), true);
    age(x, 6, 3, 4);
    Due.is("run(7), FROZEN without", x.run(7), false);
    age(x, 7, -1, -1);
  }

  // ---- 19

  private static void promiseOfEachKind() {
    Due.by("19: A PROMISE of a TABLE: true");
    TableCatalog x = kinds();
    for (int t = 0; t < 6; t++) {
      for (int lag : new int[] {0, 1, 999, 1000, 5}) {
        Due.is("promise(" + t + ", " + lag + ")", x.promise(t, lag), true);
        Due.is("table(" + t + ", 9)", x.table(t, 9), lag);
      }
    }
  }

  private static void promiseOfNoneAnyMore() {
    Due.by("19: (lag NONE: none any more)");
    TableCatalog x = kinds();
    for (int t = 0; t < 6; t++) {
      Due.is("promise(t, NONE), there was none", x.promise(t, TableCatalog.NONE), true);
      Due.is("table(t, 9)", x.table(t, 9), -1);
      x.promise(t, 0);
      Due.is("late(t)", x.late(t) >= 0, true);
      Due.is("promise(t, NONE)", x.promise(t, -1), true);
      Due.is("table(t, 9)", x.table(t, 9), -1);
      Due.is("late(t)", x.late(t), -1);
      Due.found(x, "broken", x.broken());
    }
  }

  private static void promiseOfNoneSuch() {
    Due.by("19: false when there is none such");
    TableCatalog x = kinds();
    for (int t : NO_TABLES) {
      Due.is("promise(" + t + ", 0)", x.promise(t, 0), false);
      Due.is("promise(" + t + ", NONE)", x.promise(t, -1), false);
    }
    x.promise(4, 0);
    x.drop(4);
    Due.is("promise(4, 0), gone", x.promise(4, 0), false);
    Due.is("promise(4, NONE), gone", x.promise(4, -1), false);
    Due.found(x, "broken", x.broken());
  }

  private static void promiseThatCannotBe() {
    Due.by("19: false when it can't be");
    TableCatalog x = kinds();
    for (int lag : new int[] {-2, -3, -1000, MIN, 1001, 1002, 30000, 65536, MAX}) {
      TableCatalog y = kinds();
      Due.is("promise(0, " + lag + ")", y.promise(0, lag), false);
      Due.is("table(0, 9), none", y.table(0, 9), -1);
      y.promise(0, 7);
      Due.is("promise(0, " + lag + ")", y.promise(0, lag), false);
      Due.is("table(0, 9), as it was", y.table(0, 9), 7);
    }
    Due.is("promise(0, 1000)", x.promise(0, 1000), true);
  }

  // ---- 20

  private static void brokenInOrder() {
    Due.by("20: FOUND are the TABLES whose PROMISES are BROKEN, in order");
    TableCatalog x = kinds();
    for (int t = 5; t >= 0; t--) {
      x.promise(t, t);
    }
    Due.found(x, "broken", x.broken(), 0, 1, 2, 3, 4, 5);
    x.fed(0, 1, 48);
    // of the VIEW, a lag of 2, it is just kept
    Due.found(x, "broken", x.broken(), 0, 1, 3, 4, 5);
    x.today(51);
    Due.found(x, "broken", x.broken(), 0, 1, 2, 3, 4, 5);
    x.run(4);
    Due.found(x, "broken", x.broken(), 0, 1, 2, 3, 5);
    x.fed(1, 51, 51);
    x.run(3);
    Due.found(x, "broken", x.broken(), 0, 2, 5);
  }

  private static void brokenOfNone() {
    Due.by("20: how many (none)");
    TableCatalog x = kinds();
    Due.found(x, "broken without any PROMISE", x.broken());
    x.promise(0, 50);
    x.fed(0, 0, 0);
    Due.found(x, "broken, kept on the last day", x.broken());
    x.today(51);
    Due.found(x, "broken, a day on", x.broken(), 0);
    x.fed(0, 0, 1);
    Due.found(x, "broken, kept again", x.broken());
  }

  private static void brokenOfAllSixteen() {
    Due.by("20: how many (all that there can be)");
    TableCatalog x = new TableCatalog();
    int[] all = new int[16];
    for (int t = 0; t < 16; t++) {
      Due.made(x, "table " + (char) ('a' + t) + " (x n);", t);
      x.promise(t, 1000);
      all[t] = t;
    }
    Due.found(x, "broken", x.broken(), all);
    x.fed(15, 0, 0);
    Due.is("broken", x.broken(), 15);
  }

  private static void brokenOfNoneGone() {
    Due.by("20: the TABLES (none that is gone)");
    TableCatalog x = kinds();
    x.promise(4, 0);
    x.promise(3, 0);
    Due.found(x, "broken", x.broken(), 3, 4);
    x.drop(3);
    Due.found(x, "broken", x.broken(), 4);
    Due.made(x, "copy w = c : 1 from a;", 6);
    Due.found(x, "broken, a new one of its NAME", x.broken(), 4);
  }

  // ---- 21

  private static void lateOfOneThatIsKept() {
    Due.by("21: a TABLE whose PROMISE is BROKEN; NONE when there is none such (it is kept)");
    TableCatalog x = kinds();
    x.promise(0, 10);
    x.fed(0, 0, 40);
    Due.is("late(0), on the last day", x.late(0), -1);
    x.today(51);
    Due.is("late(0), a day on", x.late(0), 0);
    x.promise(0, 11);
    Due.is("late(0), kept", x.late(0), -1);
    // what is behind it does not count then
    x.run(4);
    x.promise(4, 11);
    x.fed(0, 0, 0);
    Due.is("late(4), kept though a is late", x.late(4), -1);
    Due.is("late(0)", x.late(0), 0);
  }

  private static void lateOfOneWithoutAPromise() {
    Due.by("21: NONE when there is none such (no PROMISE)");
    TableCatalog x = kinds();
    x.promise(2, 0);
    for (int t = 0; t < 6; t++) {
      Due.is("late(" + t + ")", x.late(t), t == 2 ? 0 : -1);
    }
    x.promise(2, -1);
    Due.is("late(2), none any more", x.late(2), -1);
  }

  private static void lateOfNoneSuch() {
    Due.by("21: NONE when there is none such (no TABLE)");
    TableCatalog x = kinds();
    for (int t = 0; t < 6; t++) {
      x.promise(t, 0);
    }
    for (int t : NO_TABLES) {
      Due.is("late(" + t + ")", x.late(t), -1);
    }
    Due.is("late(4)", x.late(4), 0);
    x.drop(4);
    Due.is("late(4), gone", x.late(4), -1);
    Due.is("late(3)", x.late(3), 0);
  }

  private static void lateOfOneWithNoAge() {
    Due.by("21: The LATE one of a TABLE whose PROMISE is BROKEN (it has no AGE)");
    TableCatalog x = kinds();
    for (int t = 0; t < 6; t++) {
      x.promise(t, 1000);
    }
    int[] due = {0, 1, 0, 0, 0, 5};
    for (int t = 0; t < 6; t++) {
      Due.is("late(" + t + ")", x.late(t), due[t]);
    }
    x.fed(0, 0, 0);
    int[] then = {-1, 1, -1, 1, 4, 5};
    for (int t = 0; t < 6; t++) {
      Due.is("late(" + t + ")", x.late(t), then[t]);
    }
  }

  private static void lateOverTheLastLag() {
    Due.by("21: The LATE one (TODAY less a LAG below 0, and at the last days)");
    TableCatalog x = kinds();
    x.fed(0, 0, 0);
    x.fed(1, 0, 0);
    x.run(3);
    x.promise(3, 1000);
    Due.is("late(3), kept", x.late(3), -1);
    x.promise(3, 51);
    Due.is("late(3), kept", x.late(3), -1);
    x.promise(3, 50);
    Due.is("late(3), kept", x.late(3), -1);
    x.promise(3, 49);
    Due.is("late(3)", x.late(3), 0);
    x.today(30000);
    x.promise(3, 0);
    x.fed(0, 0, 30000);
    Due.is("late(3), b a day below", x.late(3), 1);
    x.fed(1, 0, 30000);
    Due.is("late(3), not run", x.late(3), 3);
    x.run(3);
    Due.is("late(3), kept", x.late(3), -1);
  }
}
