/** Promises 7 to 15: tables and columns, what they come from and touch, and changes to them. */
public final class ColumnsTest {
  public static void main(String[] args) {
    tables();
    types();
    comesFrom();
    touched();
    asked();
    found();
    retypeFollows();
    retypeRefused();
    retypeKeepsTypes();
    drop();
    freeze();
    Due.close();
  }

  private static TableCatalog chain() {
    TableCatalog x = new TableCatalog();
    Due.made(x, "table a (n n, t t, d d);", 0);
    Due.made(x, "table b (n n, t t, d d);", 1);
    Due.made(x, "view v = p : a.n + b.n - a.n, q : a.t & 'x' & str(len(b.t)), r : 7 from b, a where a.d < b.d;", 2);
    Due.made(x, "copy w = s : v.p, t : a.d from a, v, b;", 3);
    Due.made(x, "view u = k : 1, l : w.t from w where w.s = 1;", 4);
    return x;
  }

  private static void tables() {
    TableCatalog x = chain();
    int[][] due = {
      {0, 3, 0, -1, -1, -1, -1, -1, -1, -1},
      {0, 3, 0, -1, -1, -1, -1, -1, -1, -1},
      {1, 3, 2, 1, 0, -1, -1, -1, -1, -1},
      {2, 2, 3, 0, 2, 1, -1, -1, -1, -1},
      {1, 2, 1, 3, -1, -1, -1, -1, -1, -1},
    };
    for (int t = 0; t < 5; t++) {
      for (int what = 0; what < 10; what++) {
        Due.is("table(" + t + ", " + what + ")", x.table(t, what), due[t][what]);
      }
      Due.is("table(t, -1)", x.table(t, -1), -1);
      Due.is("table(t, 10)", x.table(t, 10), -1);
      Due.is("table(t, max)", x.table(t, Integer.MAX_VALUE), -1);
    }
    Due.is("table(5, 0)", x.table(5, 0), -1);
    Due.is("table(-1, 0)", x.table(-1, 0), -1);
    Due.is("table(min, 1)", x.table(Integer.MIN_VALUE, 1), -1);
    Due.is("fed", x.fed(0, 0, 0), true);
    Due.is("own", x.own(0, 9), true);
    Due.is("promise", x.promise(0, 1000), true);
    Due.is("table(0, 6)", x.table(0, 6), 0);
    Due.is("table(0, 7)", x.table(0, 7), 0);
    Due.is("table(0, 8)", x.table(0, 8), 9);
    Due.is("table(0, 9)", x.table(0, 9), 1000);
  }

  private static void types() {
    TableCatalog x = chain();
    String due = "ntdntdntnndnd";
    int[] counts = {3, 3, 3, 2, 2};
    int at = 0;
    for (int t = 0; t < 5; t++) {
      for (int c = 0; c < counts[t]; c++) {
        Due.is("type(" + t + ", " + c + ")", x.type(t, c), due.charAt(at));
        at++;
      }
      Due.is("type(t, -1)", x.type(t, -1), -1);
      Due.is("type(t, beyond)", x.type(t, counts[t]), -1);
    }
    Due.is("type(5, 0)", x.type(5, 0), -1);
    Due.is("type(-1, 0)", x.type(-1, 0), -1);
    Due.is("type(0, 8)", x.type(0, 8), -1);
  }

  private static void comesFrom() {
    TableCatalog x = chain();
    Due.found(x, "from(2, 0, 0)", x.from(2, 0, 0), 0, 8);
    Due.found(x, "from(2, 1, 0)", x.from(2, 1, 0), 1, 9);
    Due.found(x, "from(2, 2, 0)", x.from(2, 2, 0));
    Due.found(x, "from(3, 0, 0)", x.from(3, 0, 0), 16);
    Due.found(x, "from(3, 0, 1)", x.from(3, 0, 1), 0, 8, 16);
    Due.found(x, "from(3, 0, 2)", x.from(3, 0, 2), 0, 8);
    Due.found(x, "from(4, 1, 0)", x.from(4, 1, 0), 25);
    Due.found(x, "from(4, 1, 1)", x.from(4, 1, 1), 2, 25);
    Due.found(x, "from(4, 1, 2)", x.from(4, 1, 2), 2);
    Due.found(x, "from(0, 0, 2)", x.from(0, 0, 2));
    Due.found(x, "from(2, 0, 1)", x.from(2, 0, 1), 0, 8);
    int[][] wrong = {{5, 0, 0}, {-1, 0, 0}, {16, 0, 0}, {2, 3, 0}, {2, -1, 0}, {2, 0, -1}, {2, 0, 3}};
    for (int[] w : wrong) {
      Due.is("from of none such", x.from(w[0], w[1], w[2]), -1);
    }
    Due.is("freeze(3)", x.freeze(3), true);
    Due.found(x, "from(4, 1, 1) over a frozen one", x.from(4, 1, 1), 25);
    Due.found(x, "from(4, 1, 2) over a frozen one", x.from(4, 1, 2));
    Due.found(x, "from(3, 0, 1) of a frozen one", x.from(3, 0, 1));
  }

  private static void touched() {
    TableCatalog x = chain();
    Due.found(x, "touch(0, 0)", x.touch(0, 0), 16, 24, 32, 33);
    Due.found(x, "touch(0, 1)", x.touch(0, 1), 17);
    // all of v's rows hang on a.d, so v.p and all that it touches; w.t comes from a.d itself
    Due.found(x, "touch(0, 2)", x.touch(0, 2), 16, 17, 18, 24, 25, 32, 33);
    Due.found(x, "touch(1, 2)", x.touch(1, 2), 16, 17, 18, 24, 32, 33);
    Due.found(x, "touch(2, 2)", x.touch(2, 2));
    Due.found(x, "touch(3, 0)", x.touch(3, 0), 32, 33);
    Due.found(x, "touch(3, 1)", x.touch(3, 1), 33);
    Due.found(x, "touch(4, 1)", x.touch(4, 1));
    Due.is("touch(5, 0)", x.touch(5, 0), -1);
    Due.is("touch(0, 3)", x.touch(0, 3), -1);
    Due.is("touch(0, -1)", x.touch(0, -1), -1);
    Due.is("touch(-1, 0)", x.touch(-1, 0), -1);
    Due.is("freeze(3)", x.freeze(3), true);
    Due.found(x, "touch(0, 0) with a frozen one", x.touch(0, 0), 16);
    Due.found(x, "touch(3, 0) of a frozen one", x.touch(3, 0), 32, 33);
  }

  private static void asked() {
    TableCatalog x = chain();
    Due.is("ask 0", x.ask(0, 4, 1), 0);
    Due.is("ask 1", x.ask(0, 2, 2), 1);
    Due.is("ask 2", x.ask(0, 0, 5), 2);
    Due.is("ask 3", x.ask(0, 2, 4), 3);
    Due.is("ask 4", x.ask(9, 0, 2), 4);
    Due.found(x, "asked(0, 0)", x.asked(0, 0), 0, 2);
    Due.found(x, "asked(0, 1)", x.asked(0, 1), 1, 4);
    Due.found(x, "asked(0, 2)", x.asked(0, 2), 0, 1, 2, 3);
    Due.found(x, "asked(1, 1)", x.asked(1, 1), 1);
    Due.found(x, "asked(3, 1)", x.asked(3, 1));
    Due.is("asked(5, 0)", x.asked(5, 0), -1);
    Due.is("asked(0, 3)", x.asked(0, 3), -1);
    Due.is("asked(0, -1)", x.asked(0, -1), -1);
    Due.is("asked(-1, 0)", x.asked(-1, 0), -1);
    Due.is("drop(4)", x.drop(4), 1);
    Due.found(x, "asked(0, 2) with one gone", x.asked(0, 2), 1, 2, 3);
  }

  private static void found() {
    TableCatalog x = chain();
    x.touch(0, 0);
    Due.is("found(-1)", x.found(-1), -1);
    Due.is("found(4)", x.found(4), -1);
    Due.is("found(min)", x.found(Integer.MIN_VALUE), -1);
    Due.is("found(max)", x.found(Integer.MAX_VALUE), -1);
    Due.is("found(3)", x.found(3), 33);
    x.type(0, 0);
    x.table(0, 0);
    x.retype(0, 0, 'n');
    Due.is("found(3), nothing found since", x.found(3), 33);
    x.touch(4, 0);
    Due.is("found(0), none found since", x.found(0), -1);
  }

  private static void retypeFollows() {
    TableCatalog x = new TableCatalog();
    Due.made(x, "table a (x n, y t, z d);", 0);
    Due.made(x, "view v = p : a.x + 1, q : a.x - 2 from a where a.x < a.x + 3;", 1);
    Due.made(x, "copy w = p : v.p, q : v.q - v.q, r : 5 from v;", 2);
    Due.is("retype to d", x.retype(0, 0, 'd'), 3);
    Due.is("type(0, 0)", x.type(0, 0), 'd');
    Due.is("type(1, 0)", x.type(1, 0), 'd');
    Due.is("type(1, 1)", x.type(1, 1), 'd');
    Due.is("type(2, 0)", x.type(2, 0), 'd');
    Due.is("type(2, 1)", x.type(2, 1), 'n');
    Due.is("retype to d again", x.retype(0, 0, 'd'), 0);
    Due.is("a frozen one keeps its types", x.freeze(2), true);
    Due.is("retype back", x.retype(0, 0, 'n'), 2);
    Due.is("type(2, 0)", x.type(2, 0), 'd');
    Due.is("retype of what none uses", x.retype(0, 1, 'd'), 0);
    Due.is("type(0, 1)", x.type(0, 1), 'd');
    int[][] wrong = {{3, 0, 'n'}, {-1, 0, 'n'}, {0, 3, 'n'}, {0, -1, 'n'}, {1, 0, 'n'}, {2, 0, 'n'}, {0, 0, 'x'},
      {0, 0, 0}, {0, 0, -1}, {0, 0, 'N'}, {0, 0, 'n' + 256}};
    for (int[] w : wrong) {
      Due.is("retype of none such", x.retype(w[0], w[1], w[2]), -1);
    }
    Due.made(x, "view u = p : a.x + 1 from a where a.x < 7;", 3);
    Due.is("retype with a where in the way", x.retype(0, 0, 'd'), -2);
    Due.found(x, "retype with a where in the way", 1, 30);
  }

  private static void retypeRefused() {
    TableCatalog x = new TableCatalog();
    Due.made(x, "table a (x n, y t, z d);", 0);
    Due.made(x, "view v = p : a.x + 1, q : str(a.x), r : len(a.y) from a where a.x < 2;", 1);
    Due.made(x, "view w = p : v.p - v.p, q : v.q & a.y from v, a where v.p = 3;", 2);
    Due.is("retype(0, 0, t)", x.retype(0, 0, 't'), -2);
    // v.p, v.q and v's where can't be; they keep their types, so that w stands
    Due.found(x, "retype(0, 0, t)", 3, 8, 9, 14);
    Due.is("retype(0, 0, d)", x.retype(0, 0, 'd'), -2);
    // v.p would be d: w.p is n then, but w's where can't be
    Due.found(x, "retype(0, 0, d)", 3, 9, 14, 22);
    Due.is("retype(0, 1, n)", x.retype(0, 1, 'n'), -2);
    Due.found(x, "retype(0, 1, n)", 2, 10, 17);
    Due.is("retype(0, 0, q) finds nothing", x.retype(0, 0, 'q'), -1);
    Due.found(x, "retype(0, 0, q) finds nothing", 2, 10, 17);
    for (int t = 0; t < 3; t++) {
      for (int c = 0; c < x.table(t, 1); c++) {
        Due.is("a type stays", x.type(t, c), new String[] {"ntd", "ntn", "nt"}[t].charAt(c));
      }
    }
  }

  private static void retypeKeepsTypes() {
    TableCatalog x = new TableCatalog();
    Due.made(x, "table a (x n, y t, z d);", 0);
    Due.made(x, "view v = p : a.x - 1, q : a.x + len(str(a.x)) from a;", 1);
    Due.made(x, "view w = p : str(v.p), q : str(v.q) from v;", 2);
    Due.made(x, "view u = p : str(len(w.p)) & w.q from w where w.p = '';", 3);
    // v.q can't be and stays n, so w.q is well; v.p would be d, so w.p can't be and stays t
    Due.is("retype(0, 0, d)", x.retype(0, 0, 'd'), -2);
    Due.found(x, "retype(0, 0, d)", 2, 9, 16);
    Due.is("type(0, 0) stays", x.type(0, 0), 'n');
    Due.is("type(1, 0) stays", x.type(1, 0), 'n');
    Due.is("type(1, 1) stays", x.type(1, 1), 'n');
  }

  private static void drop() {
    TableCatalog x = chain();
    x.ask(0, 4, 1);
    x.ask(0, 3, 1);
    x.ask(0, 4, 3);
    Due.is("drop(0), used", x.drop(0), -2);
    Due.is("drop(3), used", x.drop(3), -2);
    Due.is("drop(5)", x.drop(5), -1);
    Due.is("drop(-1)", x.drop(-1), -1);
    Due.is("drop(16)", x.drop(16), -1);
    Due.is("drop(4)", x.drop(4), 2);
    Due.is("drop(4) again", x.drop(4), -1);
    Due.is("table(4, 1)", x.table(4, 1), -1);
    Due.is("type(4, 0)", x.type(4, 0), -1);
    Due.is("from(4, 0, 0)", x.from(4, 0, 0), -1);
    Due.is("touch(4, 0)", x.touch(4, 0), -1);
    Due.is("asked(4, 0)", x.asked(4, 0), -1);
    Due.is("freeze(4)", x.freeze(4), false);
    Due.is("promise(4, 0)", x.promise(4, 0), false);
    Due.is("own(4, 0)", x.own(4, 0), false);
    Due.is("ask(0, 4, 1)", x.ask(0, 4, 1), -1);
    Due.is("alike(4, 2)", x.alike(4, 2), -1);
    Due.found(x, "touch(3, 0)", x.touch(3, 0));
    Due.made(x, "view u = k : w.s from w;", 5);
    Due.is("type(5, 0)", x.type(5, 0), 'n');
    Due.is("freeze(3)", x.freeze(3), true);
    Due.is("drop(2), behind a frozen one no more", x.drop(2), 0);
    Due.is("drop(3), behind u", x.drop(3), -2);
    Due.is("drop(5)", x.drop(5), 0);
    Due.is("drop(3)", x.drop(3), 1);
    Due.is("drop(1)", x.drop(1), 0);
    Due.is("drop(0)", x.drop(0), 0);
  }

  private static void freeze() {
    TableCatalog x = chain();
    Due.is("freeze a source", x.freeze(0), false);
    Due.is("freeze a view", x.freeze(2), false);
    Due.is("freeze(5)", x.freeze(5), false);
    Due.is("freeze(-1)", x.freeze(-1), false);
    Due.is("freeze(3)", x.freeze(3), true);
    Due.is("freeze(3) again", x.freeze(3), false);
    Due.is("table(3, 0)", x.table(3, 0), 3);
    Due.is("table(3, 1)", x.table(3, 1), 2);
    for (int what = 3; what <= 5; what++) {
      Due.is("table(3, " + what + ")", x.table(3, what), -1);
    }
    Due.is("table(3, 2)", x.table(3, 2), 0);
    Due.is("type(3, 1)", x.type(3, 1), 'd');
    Due.found(x, "touch(2, 0)", x.touch(2, 0));
  }
}
