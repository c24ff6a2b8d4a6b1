/** Promises 16 to 21: days, ages, runs, promises and which table is late. */
public final class AgesTest {
  public static void main(String[] args) {
    today();
    fed();
    viewsAndCopies();
    madeLate();
    frozenKeepsItsAge();
    promise();
    broken();
    late();
    lateWithNoAge();
    lateFarBehind();
    Due.close();
  }

  private static TableCatalog chain() {
    TableCatalog x = new TableCatalog();
    Due.made(x, "table a (x n);", 0);
    Due.made(x, "table b (x n);", 1);
    Due.made(x, "view v = c : 1 from a, b;", 2);
    Due.made(x, "copy w = c : 1 from v;", 3);
    Due.made(x, "view u = c : 1 from b, w;", 4);
    return x;
  }

  private static void age(TableCatalog x, int t, int oldest, int newest) {
    Due.is("table(" + t + ", 6)", x.table(t, 6), oldest);
    Due.is("table(" + t + ", 7)", x.table(t, 7), newest);
  }

  private static void today() {
    TableCatalog x = new TableCatalog();
    Due.is("today(-1)", x.today(-1), false);
    Due.is("today(0)", x.today(0), true);
    Due.is("today(7)", x.today(7), true);
    Due.is("today(7) again", x.today(7), true);
    Due.is("today(6)", x.today(6), false);
    Due.is("today(30001)", x.today(30001), false);
    Due.is("today(max)", x.today(Integer.MAX_VALUE), false);
    Due.is("today(30000)", x.today(30000), true);
    Due.is("today(29999)", x.today(29999), false);
    Due.made(x, "table a (x n);", 0);
    Due.is("fed up to the last day", x.fed(0, 0, 30000), true);
  }

  private static void fed() {
    TableCatalog x = chain();
    Due.is("fed on day 0", x.fed(0, 0, 0), true);
    age(x, 0, 0, 0);
    x.today(10);
    Due.is("fed(0, 4, 10)", x.fed(0, 4, 10), true);
    Due.is("fed(0, 4, 11)", x.fed(0, 4, 11), false);
    Due.is("fed(0, 5, 4)", x.fed(0, 5, 4), false);
    Due.is("fed(0, -1, 4)", x.fed(0, -1, 4), false);
    Due.is("fed(0, -2, -1)", x.fed(0, -2, -1), false);
    Due.is("fed(2, 1, 1), a view", x.fed(2, 1, 1), false);
    Due.is("fed(3, 1, 1), a copy", x.fed(3, 1, 1), false);
    Due.is("fed(5, 1, 1)", x.fed(5, 1, 1), false);
    Due.is("fed(-1, 1, 1)", x.fed(-1, 1, 1), false);
    age(x, 0, 4, 10);
    Due.is("fed backwards", x.fed(0, 1, 2), true);
    age(x, 0, 1, 2);
    Due.is("freeze(3)", x.freeze(3), true);
    Due.is("fed(3, 1, 1), a frozen one", x.fed(3, 1, 1), false);
  }

  private static void viewsAndCopies() {
    TableCatalog x = chain();
    x.today(20);
    for (int t = 0; t < 5; t++) {
      age(x, t, -1, -1);
    }
    Due.is("fed(1, 5, 9)", x.fed(1, 5, 9), true);
    age(x, 2, -1, -1);
    Due.is("run(3), v has no age", x.run(3), false);
    Due.is("fed(0, 7, 8)", x.fed(0, 7, 8), true);
    age(x, 2, 5, 9);
    age(x, 3, -1, -1);
    age(x, 4, -1, -1);
    Due.is("run(3)", x.run(3), true);
    age(x, 3, 5, 9);
    age(x, 4, 5, 9);
    Due.is("fed(1, 12, 20)", x.fed(1, 12, 20), true);
    age(x, 2, 7, 20);
    age(x, 3, 5, 9);
    age(x, 4, 5, 20);
    Due.is("run(3) again", x.run(3), true);
    age(x, 3, 7, 20);
    age(x, 4, 7, 20);
    Due.is("run(0), a source", x.run(0), false);
    Due.is("run(2), a view", x.run(2), false);
    Due.is("run(5)", x.run(5), false);
    Due.is("run(-1)", x.run(-1), false);
  }

  private static void madeLate() {
    TableCatalog x = chain();
    x.today(20);
    x.fed(0, 1, 2);
    x.fed(1, 3, 4);
    Due.made(x, "view t = c : 1 from v, a;", 5);
    age(x, 5, 1, 4);
    Due.made(x, "copy s = c : 1 from t;", 6);
    age(x, 6, -1, -1);
    Due.is("run(6)", x.run(6), true);
    age(x, 6, 1, 4);
  }

  private static void frozenKeepsItsAge() {
    TableCatalog x = chain();
    x.today(20);
    x.fed(0, 1, 2);
    x.fed(1, 3, 4);
    Due.is("freeze(3) without an age", x.freeze(3), true);
    age(x, 3, -1, -1);
    Due.is("run(3), frozen", x.run(3), false);
    age(x, 4, -1, -1);
    Due.made(x, "copy s = c : 1 from v;", 5);
    Due.is("run(5)", x.run(5), true);
    Due.is("freeze(5)", x.freeze(5), true);
    x.fed(1, 20, 20);
    age(x, 5, 1, 4);
    Due.is("run(5), frozen", x.run(5), false);
    Due.made(x, "view r = c : 1 from s, b;", 6);
    age(x, 6, 1, 20);
  }

  private static void promise() {
    TableCatalog x = chain();
    Due.is("promise(0, -2)", x.promise(0, -2), false);
    Due.is("promise(0, 1001)", x.promise(0, 1001), false);
    Due.is("promise(0, min)", x.promise(0, Integer.MIN_VALUE), false);
    Due.is("promise(5, 0)", x.promise(5, 0), false);
    Due.is("promise(-1, 0)", x.promise(-1, 0), false);
    Due.is("promise(5, -1)", x.promise(5, -1), false);
    Due.is("table(0, 9)", x.table(0, 9), -1);
    Due.is("promise(0, -1), none to go", x.promise(0, -1), true);
    Due.is("promise(0, 0)", x.promise(0, 0), true);
    Due.is("table(0, 9)", x.table(0, 9), 0);
    Due.is("promise(0, 1000)", x.promise(0, 1000), true);
    Due.is("table(0, 9)", x.table(0, 9), 1000);
    Due.is("promise(0, 1001)", x.promise(0, 1001), false);
    Due.is("table(0, 9) stays", x.table(0, 9), 1000);
    Due.is("promise(0, -1)", x.promise(0, -1), true);
    Due.is("table(0, 9)", x.table(0, 9), -1);
  }

  private static void broken() {
    TableCatalog x = chain();
    Due.found(x, "broken, none promised", x.broken());
    x.promise(4, 3);
    x.promise(0, 0);
    Due.found(x, "broken without an age", x.broken(), 0, 4);
    x.today(5);
    x.fed(0, 5, 5);
    Due.found(x, "broken", x.broken(), 4);
    x.fed(1, 1, 2);
    x.run(3);
    Due.found(x, "broken, lag 3 and new enough", x.broken());
    x.today(8);
    Due.found(x, "broken, a day's count below", x.broken(), 0);
    x.promise(4, 2);
    Due.found(x, "broken", x.broken(), 0, 4);
    x.promise(0, -1);
    Due.found(x, "broken", x.broken(), 4);
    Due.is("drop(4)", x.drop(4), 0);
    Due.found(x, "broken", x.broken());
  }

  private static void late() {
    TableCatalog x = chain();
    x.today(100);
    x.fed(0, 1, 50);
    x.fed(1, 1, 60);
    x.run(3);
    Due.is("late(4), no promise", x.late(4), -1);
    x.promise(4, 40);
    Due.is("late(4), kept", x.late(4), -1);
    x.promise(4, 39);
    // b at 60 is below 61, and is the first behind u
    Due.is("late(4) at b", x.late(4), 1);
    x.fed(1, 1, 61);
    Due.is("late(4), kept by b", x.late(4), -1);
    x.fed(1, 1, 61);
    x.promise(4, 20);
    x.fed(1, 1, 100);
    Due.is("late(4), kept by b", x.late(4), -1);
    x.promise(3, 30);
    // w is at 60; v is at 100 now, so w itself is late
    Due.is("late(3)", x.late(3), 3);
    x.fed(1, 1, 65);
    Due.is("late(3) at a", x.late(3), 0);
    x.fed(0, 1, 70);
    Due.is("late(3), v well", x.late(3), 3);
    x.run(3);
    Due.is("late(3), kept", x.late(3), -1);
    x.promise(0, 29);
    Due.is("late(0), a source", x.late(0), 0);
    Due.is("late(5)", x.late(5), -1);
    Due.is("late(-1)", x.late(-1), -1);
  }

  private static void lateWithNoAge() {
    TableCatalog x = chain();
    x.promise(4, 1000);
    Due.is("late(4), the first without an age", x.late(4), 1);
    x.fed(1, 0, 0);
    Due.is("late(4), w has no age, nor v, nor a", x.late(4), 0);
    x.fed(0, 0, 0);
    Due.is("late(4), w was not run", x.late(4), 3);
    Due.is("freeze(3)", x.freeze(3), true);
    Due.is("late(4), w is frozen", x.late(4), 3);
    x.promise(3, 5);
    Due.is("late(3), frozen without an age", x.late(3), 3);
  }

  private static void lateFarBehind() {
    TableCatalog x = new TableCatalog();
    Due.made(x, "table a (x n);", 0);
    for (int t = 1; t < 16; t++) {
      Due.made(x, "view " + (char) ('a' + t) + " = x : " + (char) ('a' + t - 1) + ".x from " + (char) ('a' + t - 1)
          + (t > 1 ? ", " + (char) ('a' + t - 2) : "") + (t > 2 ? ", " + (char) ('a' + t - 3) : "") + ";", t);
    }
    x.promise(15, 0);
    Due.is("late(15)", x.late(15), 0);
    x.fed(0, 0, 0);
    Due.is("late(15)", x.late(15), -1);
    age(x, 15, 0, 0);
    x.own(0, 4);
    Due.is("table(15, 8)", x.table(15, 8), 4);
    Due.is("from(15, 0, 1)", x.from(15, 0, 1), 15);
    Due.is("touch(0, 0)", x.touch(0, 0), 15);
  }
}
