/** Promises 22 to 25: owners, asks, what is unused and what is alike. */
public final class UsersTest {
  public static void main(String[] args) {
    own();
    ask();
    fortyAsks();
    unused();
    alike();
    alikeOneByOne();
    Due.close();
  }

  private static TableCatalog chain() {
    TableCatalog x = new TableCatalog();
    Due.made(x, "table a (x n);", 0);
    Due.made(x, "table b (x n, y t);", 1);
    Due.made(x, "view v = c : 1 from b, a;", 2);
    Due.made(x, "copy w = c : 1 from v;", 3);
    Due.made(x, "view u = c : 1 from a, w;", 4);
    return x;
  }

  private static void owners(TableCatalog x, int... want) {
    for (int t = 0; t < want.length; t++) {
      Due.is("table(" + t + ", 8)", x.table(t, 8), want[t]);
    }
  }

  private static void own() {
    TableCatalog x = chain();
    owners(x, -1, -1, -1, -1, -1, -1);
    Due.is("own(1, 0)", x.own(1, 0), true);
    owners(x, -1, 0, 0, 0, -1);
    Due.is("own(0, 9)", x.own(0, 9), true);
    owners(x, 9, 0, 0, 0, 9);
    Due.is("own(2, 3)", x.own(2, 3), true);
    owners(x, 9, 0, 3, 3, 9);
    Due.is("own(2, -1)", x.own(2, -1), true);
    owners(x, 9, 0, 0, 0, 9);
    Due.is("own(4, 5)", x.own(4, 5), true);
    owners(x, 9, 0, 0, 0, 5);
    Due.is("own(0, 10)", x.own(0, 10), false);
    Due.is("own(0, -2)", x.own(0, -2), false);
    Due.is("own(5, 0)", x.own(5, 0), false);
    Due.is("own(-1, 0)", x.own(-1, 0), false);
    Due.is("own(5, -1)", x.own(5, -1), false);
    Due.is("freeze(3)", x.freeze(3), true);
    owners(x, 9, 0, 0, -1, 5);
    Due.is("own(3, 1)", x.own(3, 1), true);
    owners(x, 9, 0, 0, 1, 5);
  }

  private static void ask() {
    TableCatalog x = chain();
    int[][] wrong = {{-1, 0, 1}, {10, 0, 1}, {0, -1, 1}, {0, 5, 1}, {0, 16, 1}, {0, 0, 0}, {0, 0, 2}, {0, 0, 3},
      {0, 1, 4}, {0, 1, 64}, {0, 1, -1}, {0, 1, Integer.MIN_VALUE}, {0, 1, 1 << 8 | 1}};
    for (int[] w : wrong) {
      Due.is("ask that can't be", x.ask(w[0], w[1], w[2]), -1);
    }
    Due.is("ask(0, 0, 1)", x.ask(0, 0, 1), 0);
    Due.is("ask(9, 1, 3)", x.ask(9, 1, 3), 1);
    Due.is("ask(9, 1, 2)", x.ask(9, 1, 2), 2);
    Due.is("ask(1, 3, 1)", x.ask(1, 3, 1), 3);
    Due.is("freeze(3)", x.freeze(3), true);
    Due.is("ask of a frozen one", x.ask(1, 3, 1), 4);
    Due.made(x, "table s (a n, b n, c n, d n, e n, f n);", 5);
    Due.is("ask of six", x.ask(1, 5, 63), 5);
    Due.is("ask of seven", x.ask(1, 5, 64), -1);
    Due.found(x, "asked(5, 5)", x.asked(5, 5), 5);
  }

  private static void fortyAsks() {
    TableCatalog x = chain();
    for (int i = 0; i < 40; i++) {
      Due.is("ask " + i, x.ask(i % 10, i % 5, 1), i);
    }
    Due.is("ask 40", x.ask(0, 0, 1), -1);
    Due.found(x, "asked(4, 0)", x.asked(4, 0), 4, 9, 14, 19, 24, 29, 34, 39);
    // forty in all: those that go with their table were asked all the same
    Due.is("drop(4)", x.drop(4), 8);
    Due.is("ask 40", x.ask(0, 0, 1), -1);
    Due.found(x, "asked(1, 0)", x.asked(1, 0), 1, 6, 11, 16, 21, 26, 31, 36);
  }

  private static void unused() {
    TableCatalog x = chain();
    Due.found(x, "unused(0)", x.unused(0), 0, 1, 2, 3, 4);
    x.ask(0, 2, 1);
    Due.found(x, "unused(0)", x.unused(0), 3, 4);
    Due.found(x, "unused(-5)", x.unused(-5), 3, 4);
    Due.found(x, "unused(1)", x.unused(1), 0, 1, 2, 3, 4);
    x.today(8);
    x.ask(0, 0, 1);
    Due.found(x, "unused(0)", x.unused(0), 3, 4);
    Due.found(x, "unused(8)", x.unused(8), 1, 2, 3, 4);
    Due.found(x, "unused(9)", x.unused(9), 0, 1, 2, 3, 4);
    Due.found(x, "unused(max)", x.unused(Integer.MAX_VALUE), 0, 1, 2, 3, 4);
    Due.found(x, "unused(min)", x.unused(Integer.MIN_VALUE), 3, 4);
    x.today(9);
    x.ask(0, 4, 1);
    Due.found(x, "unused(9)", x.unused(9));
    Due.is("freeze(3)", x.freeze(3), true);
    Due.found(x, "unused(9), frozen between", x.unused(9), 1, 2);
    Due.is("drop(4)", x.drop(4), 1);
    Due.found(x, "unused(9)", x.unused(9), 0, 1, 2, 3);
    Due.found(x, "unused(0)", x.unused(0), 3);
  }

  private static void alike() {
    TableCatalog x = chain();
    Due.made(x, "copy t = c : 1 from v;", 5);
    Due.is("alike(3, 5)", x.alike(3, 5), 1);
    Due.is("alike(5, 3)", x.alike(5, 3), 1);
    Due.is("alike(2, 3)", x.alike(2, 3), 0);
    Due.is("alike(3, 3)", x.alike(3, 3), -1);
    Due.is("alike(0, 3)", x.alike(0, 3), -1);
    Due.is("alike(3, 0)", x.alike(3, 0), -1);
    Due.is("alike(3, 6)", x.alike(3, 6), -1);
    Due.is("alike(-1, 3)", x.alike(-1, 3), -1);
    Due.is("alike(min, max)", x.alike(Integer.MIN_VALUE, Integer.MAX_VALUE), -1);
    Due.is("freeze(5)", x.freeze(5), true);
    Due.is("alike(3, 5), frozen", x.alike(3, 5), -1);
    Due.is("alike(5, 3), frozen", x.alike(5, 3), -1);
  }

  private static int alike(String one, String other) {
    TableCatalog x = new TableCatalog();
    Due.made(x, "table a (x n, y t);", 0);
    Due.made(x, "table b (x n, y t);", 1);
    Due.made(x, "view v " + one, 2);
    Due.made(x, "copy other " + other, 3);
    return x.alike(2, 3);
  }

  private static void alikeOneByOne() {
    String text = "=c:1+a.x,d:'q r'&a.y from a,b where len(a.y)<7;";
    Due.is("the same", alike(text, text), 1);
    Due.is("blanks", alike(text, "\n = c : 1 + a . x , d : 'q r' & a . y\nfrom a , b where len ( a . y ) < 7 ; "), 1);
    String[] others = {
      text.replace("c:", "e:"), text.replace("1+", "01+"), text.replace("1+", "2+"), text.replace("+", "-"),
      text.replace("'q r'", "'qr'"), text.replace("'q r'", "'q  r'"), text.replace("'q r'", "' q r'"),
      text.replace("'q r'", "''"), text.replace("a.y)", "b.y)"), text.replace("a,b", "b,a"), text.replace("a,b", "a"),
      text.replace("<", "="), text.replace("<7", "<7+0"), text.replace(" where len(a.y)<7", ""),
      text.replace("1+a.x", "a.x+1"), text.replace("c:1+a.x,", ""),
    };
    for (String other : others) {
      Due.is(text + " and " + other, alike(text, other), 0);
      Due.is(other + " and itself", alike(other, other), 1);
    }
    Due.is("no blank behind a number", alike("=c:1from a;", "=c:1 from a;"), 1);
    Due.is("07 is not 7", alike("=c:07 from a;", "=c:7 from a;"), 0);
    wordsStayApart();
  }

  /** Without its blanks the one statement would read as the other. */
  private static void wordsStayApart() {
    TableCatalog x = new TableCatalog();
    Due.made(x, "table a (p n, pfromq n);", 0);
    Due.made(x, "table r (x n);", 1);
    Due.made(x, "table qfromr (x n);", 2);
    Due.made(x, "view v = c : a.p from qfromr, a;", 3);
    Due.made(x, "view w = c : a.pfromq from r, a;", 4);
    Due.is("alike(3, 4)", x.alike(3, 4), 0);
  }
}
