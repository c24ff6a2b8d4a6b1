/** Terms II and III: a test of its own for each sentence that names an edge. */
public final class EdgesOfTermsTest {
  public static void main(String[] args) {
    formulasUseTheColumnsInThem();
    comesFromInOneStep();
    comesFromThroughOthers();
    rowsHangOnTheWhere();
    touchedByItsFormula();
    touchedByItsRows();
    touchedThroughOthers();
    touchedIsEachOther();
    daysAreZeroToLast();
    todayIsZeroAtFirst();
    aSourceHasNoAgeAtFirst();
    aSourceIsAsOldAsTold();
    aViewHasTheLeastAndTheGreatest();
    aViewHasNoneIfOneHasNone();
    aCopyHasNoneAheadOfItsRun();
    aCopyIsAsOldAsWhenItWasRun();
    aPromiseIsKeptOnItsLastDay();
    aLagIsZeroToThousand();
    brokenIfThereIsNoAge();
    lateIsTheTableItself();
    lateIsTheFirstSuch();
    lateHasNoAge();
    lateIsThatOnesLateOne();
    lateIsByTheFirstPromise();
    asksAreNumberedAsTheyCame();
    asksAreFortyInAll();
    usersAreZeroToNine();
    anOwnerIsToldOrTheFirstBehind();
    nobodyOwnsASourceUntold();
    aFrozenOneComesFromNothing();
    aFrozenOnesRowsHangOnNothing();
    aFrozenOneKeepsItsAge();
    Due.close();
  }

  private static void age(TableCatalog x, int t, int oldest, int newest) {
    Due.is("table(" + t + ", 6)", x.table(t, 6), oldest);
    Due.is("table(" + t + ", 7)", x.table(t, 7), newest);
  }

  // ---- II

  private static void formulasUseTheColumnsInThem() {
    Due.by("II: FORMULAS USE the COLUMNS in them");
    TableCatalog x = Due.two();
    Due.made(x, "view v = c : a.n + b.n - a.n + len(str(len(b.t))) + 5, e : 7, f : '' from b, a;", 2);
    Due.found(x, "from(2, 0, 0), each once", x.from(2, 0, 0), 0, 8, 9);
    Due.found(x, "from(2, 1, 0), none", x.from(2, 1, 0));
    Due.found(x, "from(2, 2, 0), none", x.from(2, 2, 0));
    Due.made(x, "view w = c : a.n+a.n+a.n+a.n+a.n+b.n, e : a.d, f : a.n from a, b;", 3);
    Due.found(x, "from(3, 0, 0), the sixth TERM, too", x.from(3, 0, 0), 0, 8);
    Due.found(x, "from(3, 1, 0), its own alone", x.from(3, 1, 0), 2);
  }

  private static void comesFromInOneStep() {
    Due.by("II: A COLUMN comes FROM those that its FORMULA USES (one step)");
    TableCatalog x = Due.two();
    Due.made(x, "view v = c : a.n from a, b where b.t = a.t;", 2);
    Due.made(x, "copy w = c : v.c from v, a, b;", 3);
    Due.found(x, "from(3, 0, 0)", x.from(3, 0, 0), 16);
    // neither the TABLES behind from alone nor the where
    Due.found(x, "from(2, 0, 0)", x.from(2, 0, 0), 0);
    Due.found(x, "from(2, 0, 1)", x.from(2, 0, 1), 0);
    Due.found(x, "from(0, 0, 0) of a SOURCE", x.from(0, 0, 0));
  }

  private static void comesFromThroughOthers() {
    Due.by("II: and from those that these come FROM");
    TableCatalog x = new TableCatalog();
    Due.made(x, "table a (x n, y n);", 0);
    for (int t = 1; t < 16; t++) {
      char behind = (char) ('a' + t - 1);
      Due.made(x, "view " + (char) ('a' + t) + " = x : " + behind + ".x, y : " + behind + ".y from " + behind + ";", t);
    }
    int[] all = new int[15];
    for (int t = 0; t < 15; t++) {
      all[t] = 8 * t + 1;
    }
    Due.found(x, "from(15, 1, 1) over all fifteen", x.from(15, 1, 1), all);
    Due.found(x, "from(15, 1, 2)", x.from(15, 1, 2), 1);
    Due.found(x, "from(15, 1, 0)", x.from(15, 1, 0), 113);
    Due.found(x, "from(0, 1, 1)", x.from(0, 1, 1));
  }

  private static void rowsHangOnTheWhere() {
    Due.by("II: A TABLE's rows HANG ON the COLUMNS that its where USES");
    TableCatalog x = Due.two();
    Due.made(x, "view v = c : 1, e : 2 from a, b where a.n + len(str(b.n)) < 3 - len(b.t);", 2);
    Due.found(x, "touch(0, 0), to the left of the SIGN", x.touch(0, 0), 16, 17);
    Due.found(x, "touch(1, 0), in brackets", x.touch(1, 0), 16, 17);
    Due.found(x, "touch(1, 1), to the right of the SIGN", x.touch(1, 1), 16, 17);
    Due.found(x, "touch(0, 1), not in it", x.touch(0, 1));
    Due.found(x, "from(2, 0, 1), not from the where", x.from(2, 0, 1));
  }

  private static void touchedByItsFormula() {
    Due.by("II: TOUCHED by a COLUMN: each other one whose FORMULA USES it");
    TableCatalog x = Due.two();
    Due.made(x, "view v = c : a.n, e : 1, f : b.n + a.n from a, b;", 2);
    Due.found(x, "touch(0, 0)", x.touch(0, 0), 16, 18);
    Due.found(x, "touch(1, 0)", x.touch(1, 0), 18);
    Due.found(x, "touch(0, 2), used by none", x.touch(0, 2));
    Due.found(x, "touch(2, 0), the last", x.touch(2, 0));
  }

  private static void touchedByItsRows() {
    Due.by("II: or whose TABLE's rows HANG ON it");
    TableCatalog x = Due.two();
    Due.made(x, "view v = p:1,q:2,r:3,s:4,t:5,u:6 from a where a.d = a.d;", 2);
    Due.found(x, "touch(0, 2)", x.touch(0, 2), 16, 17, 18, 19, 20, 21);
    Due.found(x, "touch(0, 1)", x.touch(0, 1));
    Due.found(x, "touch(1, 2)", x.touch(1, 2));
  }

  private static void touchedThroughOthers() {
    Due.by("II: or on one that is TOUCHED, or whose FORMULA USES such a one; and so on");
    TableCatalog x = Due.two();
    Due.made(x, "view v = c : a.n, e : 1 from a;", 2);
    Due.made(x, "view w = c : 1, e : v.e from v where v.c < 2;", 3);
    Due.made(x, "view u = c : w.e, e : 1 from w;", 4);
    Due.made(x, "view s = c : 3 from u where u.c = 1;", 5);
    Due.made(x, "view r = c : s.c, e : u.e from s, u;", 6);
    Due.found(x, "touch(0, 0)", x.touch(0, 0), 16, 24, 25, 32, 40, 48);
    Due.found(x, "touch(2, 1)", x.touch(2, 1), 25, 32, 40, 48);
    Due.found(x, "touch(4, 1)", x.touch(4, 1), 49);
    TableCatalog y = new TableCatalog();
    Due.made(y, "table a (x n);", 0);
    int[] all = new int[15];
    for (int t = 1; t < 16; t++) {
      char behind = (char) ('a' + t - 1);
      Due.made(y, "view " + (char) ('a' + t) + " = x : 1 from " + behind + " where " + behind + ".x < 1;", t);
      all[t - 1] = 8 * t;
    }
    Due.found(y, "touch(0, 0) over all fifteen", y.touch(0, 0), all);
  }

  private static void touchedIsEachOther() {
    Due.by("II: each other one");
    TableCatalog x = Due.two();
    Due.made(x, "view v = c : a.n, e : a.n from a where a.n < 1;", 2);
    // neither the COLUMN itself nor its neighbours
    Due.found(x, "touch(0, 0)", x.touch(0, 0), 16, 17);
    Due.found(x, "touch(2, 0)", x.touch(2, 0));
  }

  // ---- III

  private static void daysAreZeroToLast() {
    Due.by("III: DAYS 0 .. 30000");
    TableCatalog x = Due.two();
    Due.is("today(-1)", x.today(-1), false);
    Due.is("today(30001)", x.today(30001), false);
    Due.is("today(30000)", x.today(30000), true);
    Due.is("fed(0, -1, 0)", x.fed(0, -1, 0), false);
    Due.is("fed(0, 0, 30001)", x.fed(0, 0, 30001), false);
    age(x, 0, -1, -1);
    Due.is("fed(0, 0, 30000)", x.fed(0, 0, 30000), true);
    age(x, 0, 0, 30000);
    // the last day alone is an AGE like others, through a VIEW and a COPY
    Due.is("fed(0, 30000, 30000)", x.fed(0, 30000, 30000), true);
    Due.made(x, "view v = c : 1 from a;", 2);
    Due.made(x, "copy w = c : 1 from v;", 3);
    Due.is("run(3)", x.run(3), true);
    age(x, 2, 30000, 30000);
    age(x, 3, 30000, 30000);
  }

  private static void todayIsZeroAtFirst() {
    Due.by("III: TODAY is 0 at first");
    TableCatalog x = Due.two();
    Due.is("fed(0, 0, 1)", x.fed(0, 0, 1), false);
    Due.is("fed(0, 0, 0)", x.fed(0, 0, 0), true);
    Due.is("promise(0, 0)", x.promise(0, 0), true);
    Due.found(x, "broken", x.broken());
    Due.is("today(0)", x.today(0), true);
    Due.is("ask", x.ask(0, 0, 1), 0);
    Due.found(x, "unused(0)", x.unused(0), 1);
    Due.found(x, "unused(1)", x.unused(1), 0, 1);
  }

  private static void aSourceHasNoAgeAtFirst() {
    Due.by("III: The AGE of a SOURCE: (none at first)");
    TableCatalog x = Due.two();
    age(x, 0, -1, -1);
    x.today(9);
    age(x, 0, -1, -1);
    x.fed(0, 3, 4);
    age(x, 0, 3, 4);
    age(x, 1, -1, -1);
  }

  private static void aSourceIsAsOldAsTold() {
    Due.by("III: The AGE of a SOURCE: its oldest and newest day, as told");
    TableCatalog x = Due.two();
    x.today(9);
    Due.is("fed(0, 3, 8)", x.fed(0, 3, 8), true);
    age(x, 0, 3, 8);
    Due.is("fed(0, 5, 5)", x.fed(0, 5, 5), true);
    age(x, 0, 5, 5);
    Due.is("fed(0, 0, 9)", x.fed(0, 0, 9), true);
    age(x, 0, 0, 9);
    Due.is("fed(0, 0, 0)", x.fed(0, 0, 0), true);
    age(x, 0, 0, 0);
    x.today(30000);
    age(x, 0, 0, 0);
  }

  private static TableCatalog three() {
    TableCatalog x = Due.two();
    Due.made(x, "table e (x n);", 2);
    Due.made(x, "view v = c : 1 from a, b, e;", 3);
    Due.is("today(100)", x.today(100), true);
    return x;
  }

  private static void aViewHasTheLeastAndTheGreatest() {
    Due.by("III: Of a VIEW: the least oldest day, the greatest newest one");
    int[][] ages = {{10, 20}, {5, 15}, {7, 30}};
    int[][] orders = {{0, 1, 2}, {0, 2, 1}, {1, 0, 2}, {1, 2, 0}, {2, 0, 1}, {2, 1, 0}};
    for (int[] order : orders) {
      TableCatalog x = three();
      for (int i = 0; i < 3; i++) {
        Due.is("fed", x.fed(i, ages[order[i]][0], ages[order[i]][1]), true);
      }
      age(x, 3, 5, 30);
    }
    TableCatalog y = three();
    for (int i = 0; i < 3; i++) {
      y.fed(i, 0, 0);
    }
    age(y, 3, 0, 0);
    // it follows at once, through a VIEW of the VIEW, back as well as on
    Due.made(y, "view w = c : 1 from v;", 4);
    age(y, 4, 0, 0);
    y.fed(1, 40, 100);
    age(y, 3, 0, 100);
    age(y, 4, 0, 100);
    y.fed(0, 50, 60);
    y.fed(2, 45, 70);
    age(y, 4, 40, 100);
    y.fed(1, 55, 56);
    age(y, 3, 45, 70);
    age(y, 4, 45, 70);
  }

  private static void aViewHasNoneIfOneHasNone() {
    Due.by("III: (none, if one of these has none)");
    for (int without = 0; without < 3; without++) {
      TableCatalog x = three();
      Due.made(x, "view w = c : 1 from v;", 4);
      for (int t = 0; t < 3; t++) {
        if (t != without) {
          x.fed(t, 1, 2);
        }
      }
      age(x, 3, -1, -1);
      age(x, 4, -1, -1);
      x.fed(without, 0, 0);
      age(x, 3, 0, 2);
      age(x, 4, 0, 2);
    }
    // a COPY that was not run has none, either
    TableCatalog y = three();
    for (int t = 0; t < 3; t++) {
      y.fed(t, 1, 2);
    }
    Due.made(y, "copy w = c : 1 from v;", 4);
    Due.made(y, "view u = c : 1 from a, w;", 5);
    age(y, 5, -1, -1);
    Due.is("run(4)", y.run(4), true);
    age(y, 5, 1, 2);
  }

  private static void aCopyHasNoneAheadOfItsRun() {
    Due.by("III: Of a COPY: (none ahead of that)");
    TableCatalog x = Due.two();
    x.today(9);
    x.fed(0, 1, 2);
    Due.made(x, "copy w = c : 1 from a;", 2);
    age(x, 2, -1, -1);
    x.fed(0, 3, 4);
    age(x, 2, -1, -1);
    Due.is("run(2)", x.run(2), true);
    age(x, 2, 3, 4);
  }

  private static void aCopyIsAsOldAsWhenItWasRun() {
    Due.by("III: Of a COPY: what a VIEW's would have been when it was run last");
    TableCatalog x = Due.two();
    x.today(9);
    Due.made(x, "copy w = c : 1 from b, a;", 2);
    Due.made(x, "copy u = c : 1 from w;", 3);
    x.fed(0, 1, 5);
    x.fed(1, 2, 6);
    Due.is("run(3) ahead of w's", x.run(3), false);
    Due.is("run(2)", x.run(2), true);
    Due.is("run(3)", x.run(3), true);
    age(x, 2, 1, 6);
    age(x, 3, 1, 6);
    x.fed(0, 4, 9);
    age(x, 2, 1, 6);
    Due.is("run(3), w not run since", x.run(3), true);
    age(x, 3, 1, 6);
    Due.is("run(2) again", x.run(2), true);
    age(x, 2, 2, 9);
    age(x, 3, 1, 6);
    x.fed(0, 0, 0);
    x.fed(1, 0, 0);
    age(x, 2, 2, 9);
    Due.is("run(2), backwards", x.run(2), true);
    age(x, 2, 0, 0);
  }

  private static void aPromiseIsKeptOnItsLastDay() {
    Due.by("III: A PROMISE: its newest day is not below TODAY less a LAG");
    TableCatalog x = Due.two();
    x.today(50);
    x.fed(0, 0, 40);
    int[][] lags = {{1000, 0}, {51, 0}, {50, 0}, {49, 0}, {11, 0}, {10, 0}, {9, 1}, {1, 1}, {0, 1}};
    for (int[] lag : lags) {
      Due.is("promise(0, " + lag[0] + ")", x.promise(0, lag[0]), true);
      Due.is("broken, lag " + lag[0], x.broken(), lag[1]);
      Due.is("late(0), lag " + lag[0], x.late(0), lag[1] == 1 ? 0 : -1);
    }
    x.fed(0, 50, 50);
    Due.is("broken, of today", x.broken(), 0);
    x.today(51);
    Due.is("broken, of yesterday", x.broken(), 1);
    // its oldest day does not count
    x.fed(0, 0, 51);
    Due.is("broken, newest of today", x.broken(), 0);
  }

  private static void aLagIsZeroToThousand() {
    Due.by("III: a LAG (0 .. 1000)");
    TableCatalog x = Due.two();
    Due.is("promise(0, 1001)", x.promise(0, 1001), false);
    Due.is("promise(0, -2)", x.promise(0, -2), false);
    Due.is("table(0, 9)", x.table(0, 9), -1);
    x.fed(0, 0, 0);
    x.today(1000);
    Due.is("promise(0, 1000)", x.promise(0, 1000), true);
    Due.is("table(0, 9)", x.table(0, 9), 1000);
    Due.is("broken", x.broken(), 0);
    x.today(1001);
    Due.is("broken, a day on", x.broken(), 1);
    Due.is("promise(0, 0)", x.promise(0, 0), true);
    Due.is("table(0, 9)", x.table(0, 9), 0);
  }

  private static void brokenIfThereIsNoAge() {
    Due.by("III: BROKEN, if it is, or there is none");
    TableCatalog x = Due.two();
    Due.made(x, "view v = c : 1 from a;", 2);
    Due.made(x, "copy w = c : 1 from a;", 3);
    for (int t = 0; t < 4; t++) {
      Due.is("promise", x.promise(t, 1000), true);
    }
    Due.found(x, "broken", x.broken(), 0, 1, 2, 3);
    x.fed(0, 0, 0);
    Due.found(x, "broken", x.broken(), 1, 3);
    x.run(3);
    Due.found(x, "broken", x.broken(), 1);
  }

  private static void lateIsTheTableItself() {
    Due.by("III: The LATE one: else itself");
    TableCatalog x = Due.two();
    x.today(10);
    x.promise(0, 1);
    Due.is("late(0), a SOURCE", x.late(0), 0);
    x.fed(0, 8, 8);
    Due.is("late(0), a day below", x.late(0), 0);
    Due.made(x, "copy w = c : 1 from a;", 2);
    x.promise(2, 3);
    Due.is("late(2), not run", x.late(2), 2);
    x.run(2);
    Due.is("late(2), kept", x.late(2), -1);
    x.fed(0, 10, 10);
    x.promise(2, 1);
    Due.is("late(2), all behind it well", x.late(2), 2);
  }

  private static void lateIsTheFirstSuch() {
    Due.by("III: The LATE one: the first such");
    TableCatalog x = three();
    Due.made(x, "copy w = c : 1 from e, b, a;", 4);
    x.promise(4, 10);
    for (int t = 0; t < 3; t++) {
      x.fed(t, 1, 89);
    }
    Due.is("late(4), all three a day below", x.late(4), 2);
    x.fed(2, 1, 90);
    Due.is("late(4), the second and third", x.late(4), 1);
    x.fed(1, 1, 90);
    Due.is("late(4), the third", x.late(4), 0);
    x.fed(0, 1, 90);
    Due.is("late(4), none of them", x.late(4), 4);
    x.run(4);
    Due.is("late(4), kept", x.late(4), -1);
  }

  private static void lateHasNoAge() {
    Due.by("III: The LATE one: the first such, has no AGE");
    TableCatalog x = three();
    x.promise(3, 1000);
    x.fed(0, 0, 0);
    Due.is("late(3), b has no AGE", x.late(3), 1);
    x.fed(1, 0, 0);
    Due.is("late(3), e has no AGE", x.late(3), 2);
    x.fed(2, 0, 0);
    Due.is("late(3), kept", x.late(3), -1);
  }

  private static void lateIsThatOnesLateOne() {
    Due.by("III: The LATE one: that one's");
    TableCatalog x = new TableCatalog();
    Due.made(x, "table a (x n);", 0);
    for (int t = 1; t < 16; t++) {
      String text = (char) ('a' + t) + " = x : 1 from " + (char) ('a' + t - 1) + ";";
      Due.made(x, (t == 8 ? "copy " : "view ") + text, t);
    }
    x.promise(15, 0);
    Due.is("late(15), over all fifteen", x.late(15), 0);
    x.fed(0, 0, 0);
    Due.is("late(15), not run", x.late(15), 8);
    x.run(8);
    Due.is("late(15), kept", x.late(15), -1);
    x.today(1);
    Due.is("late(15)", x.late(15), 0);
    x.fed(0, 1, 1);
    Due.is("late(15)", x.late(15), 8);
    Due.is("late(14), no PROMISE", x.late(14), -1);
  }

  private static void lateIsByTheFirstPromise() {
    Due.by("III: The LATE one: from the TABLE on: a newest day below that");
    TableCatalog x = Due.two();
    x.today(100);
    Due.made(x, "copy v = c : 1 from a, b;", 2);
    Due.made(x, "copy w = c : 1 from v;", 3);
    x.fed(0, 1, 70);
    x.fed(1, 1, 50);
    x.run(2);
    x.run(3);
    x.fed(0, 1, 90);
    x.promise(3, 10);
    x.promise(2, 40);
    x.promise(0, 0);
    // v's own PROMISE is kept and a's own is not; w's tells for all
    Due.is("late(3)", x.late(3), 1);
    Due.is("late(2), kept", x.late(2), -1);
    x.promise(3, 30);
    Due.is("late(3), kept", x.late(3), -1);
    x.promise(3, 29);
    Due.is("late(3)", x.late(3), 1);
    x.fed(1, 1, 71);
    Due.is("late(3)", x.late(3), 2);
  }

  private static void asksAreNumberedAsTheyCame() {
    Due.by("III: ASKS, numbered as they came (from 0 on)");
    TableCatalog x = Due.two();
    Due.is("ask", x.ask(3, 1, 1), 0);
    Due.is("ask that can't be", x.ask(3, 1, 0), -1);
    Due.is("ask", x.ask(3, 0, 1), 1);
    Due.is("drop(1)", x.drop(1), 1);
    Due.is("ask", x.ask(3, 0, 1), 2);
    Due.found(x, "asked(0, 0)", x.asked(0, 0), 1, 2);
  }

  private static void asksAreFortyInAll() {
    Due.by("III: ASKS 40 in all");
    TableCatalog x = Due.two();
    for (int i = 0; i < 40; i++) {
      Due.is("ask " + i, x.ask(i % 10, 0, 1 + i % 7), i);
    }
    Due.is("the 41st", x.ask(0, 0, 1), -1);
    Due.is("of another TABLE", x.ask(0, 1, 1), -1);
    Due.is("asked(0, 2), those that came", x.asked(0, 2), 22);
    Due.is("found(21)", x.found(21), 39);
    Due.is("drop(0)", x.drop(0), 40);
    Due.is("still the 41st", x.ask(0, 1, 1), -1);
  }

  private static void usersAreZeroToNine() {
    Due.by("III: by a user 0 .. 9");
    TableCatalog x = Due.two();
    Due.is("ask(-1, 0, 1)", x.ask(-1, 0, 1), -1);
    Due.is("ask(10, 0, 1)", x.ask(10, 0, 1), -1);
    Due.is("own(0, 10)", x.own(0, 10), false);
    Due.is("own(0, -2)", x.own(0, -2), false);
    for (int user = 0; user < 10; user++) {
      Due.is("ask", x.ask(user, 0, 1), user);
      Due.is("own", x.own(0, user), true);
      Due.is("table(0, 8)", x.table(0, 8), user);
    }
  }

  private static void anOwnerIsToldOrTheFirstBehind() {
    Due.by("III: OWNER: the user that was told; else the OWNER of the first TABLE behind its from");
    TableCatalog x = Due.two();
    Due.made(x, "view v = c : 1 from b, a;", 2);
    Due.made(x, "copy w = c : 1 from v, a;", 3);
    x.own(0, 4);
    Due.is("of the second alone", x.table(2, 8), -1);
    Due.is("of the second alone, through another", x.table(3, 8), -1);
    x.own(1, 0);
    Due.is("of the first", x.table(2, 8), 0);
    Due.is("of the first, through another", x.table(3, 8), 0);
    x.own(2, 7);
    Due.is("told", x.table(2, 8), 7);
    Due.is("of the first, told", x.table(3, 8), 7);
    x.own(2, -1);
    Due.is("told no more", x.table(3, 8), 0);
    TableCatalog y = new TableCatalog();
    Due.made(y, "table a (x n);", 0);
    for (int t = 1; t < 16; t++) {
      Due.made(y, "view " + (char) ('a' + t) + " = x : 1 from " + (char) ('a' + t - 1) + ";", t);
    }
    y.own(0, 9);
    Due.is("over all fifteen", y.table(15, 8), 9);
  }

  private static void nobodyOwnsASourceUntold() {
    Due.by("III: OWNER: else nobody");
    TableCatalog x = Due.two();
    Due.made(x, "view v = c : 1 from a, b;", 2);
    Due.made(x, "copy w = c : 1 from v;", 3);
    x.own(1, 3);
    Due.is("table(0, 8)", x.table(0, 8), -1);
    Due.is("table(2, 8)", x.table(2, 8), -1);
    x.own(0, 5);
    Due.is("table(3, 8)", x.table(3, 8), 5);
    x.freeze(3);
    Due.is("FROZEN, none is behind", x.table(3, 8), -1);
    x.own(3, 6);
    Due.is("FROZEN and told", x.table(3, 8), 6);
  }

  private static TableCatalog frozen() {
    TableCatalog x = Due.two();
    x.today(9);
    x.fed(0, 2, 3);
    x.fed(1, 4, 5);
    Due.made(x, "copy w = c : a.n, e : b.t from a, b where a.d < b.d;", 2);
    Due.made(x, "view v = c : w.c from w;", 3);
    Due.is("run(2)", x.run(2), true);
    Due.is("freeze(2)", x.freeze(2), true);
    return x;
  }

  private static void aFrozenOneComesFromNothing() {
    Due.by("III: A COPY that is FROZEN has no SELECT any more (it comes FROM nothing");
    TableCatalog x = frozen();
    for (int how = 0; how <= 2; how++) {
      Due.found(x, "from(2, 0, how)", x.from(2, 0, how));
    }
    Due.found(x, "from(3, 0, 1)", x.from(3, 0, 1), 16);
    Due.found(x, "from(3, 0, 2), it is no SOURCE", x.from(3, 0, 2));
    for (int what = 2; what <= 5; what++) {
      Due.is("table(2, " + what + ")", x.table(2, what), what == 2 ? 0 : -1);
    }
    Due.found(x, "touch(0, 0)", x.touch(0, 0));
    Due.is("its TYPES stay", x.type(2, 1), 't');
    Due.is("drop(0), none has it behind its from", x.drop(0), 0);
    Due.is("late one of it", x.promise(2, 0) ? x.late(2) : -9, 2);
  }

  private static void aFrozenOnesRowsHangOnNothing() {
    Due.by("III: its rows HANG ON nothing)");
    TableCatalog x = frozen();
    Due.found(x, "touch(0, 2)", x.touch(0, 2));
    Due.found(x, "touch(1, 2)", x.touch(1, 2));
    Due.is("retype(0, 2, t), no where is in the way", x.retype(0, 2, 't'), 0);
    // what hangs on the FROZEN one itself still does
    Due.found(x, "touch(2, 0)", x.touch(2, 0), 24);
  }

  private static void aFrozenOneKeepsItsAge() {
    Due.by("III: its AGE stays");
    TableCatalog x = frozen();
    age(x, 2, 2, 5);
    x.fed(0, 8, 9);
    x.fed(1, 8, 9);
    age(x, 2, 2, 5);
    age(x, 3, 2, 5);
    Due.is("run(2)", x.run(2), false);
    age(x, 2, 2, 5);
    Due.made(x, "copy u = c : 1 from a;", 4);
    Due.is("freeze(4), not run", x.freeze(4), true);
    age(x, 4, -1, -1);
    x.fed(0, 9, 9);
    age(x, 4, -1, -1);
  }
}
