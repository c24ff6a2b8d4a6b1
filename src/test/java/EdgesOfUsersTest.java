/** Promises 22 to 25: a test of its own for each sentence that names an edge. */
public final class EdgesOfUsersTest {
  private static final int MIN = Integer.MIN_VALUE;
  private static final int MAX = Integer.MAX_VALUE;
  private static final String TEXT = "= c : a.n + 12 - 3, e : 'q r' & str(len(a.t)) from a, b where a.n < b.n;";
  private static final int[] NO_TABLES = {-1, -2, -16, 5, 15, 16, 17, 32, 1 << 29, MIN, MAX};

  public static void main(String[] args) {
    ownOfEachKind();
    ownOfNobody();
    ownOfNoneSuch();
    ownByNoUser();
    askIsNumbered();
    askOfAllColumns();
    askOfNoColumn();
    askOfColumnsThatAreNotThere();
    askOfNoneSuch();
    askByNoUser();
    askRefusedIsNotCounted();
    askBeyondForty();
    unusedOnTheDayItself();
    unusedSinceAnyDay();
    unusedThroughWhateverSteps();
    unusedNotTheOtherWay();
    unusedByAsksThatAreGone();
    unusedOverFrozenOnes();
    unusedOfNoneAndOfAll();
    alikeFromTheSignOn();
    alikeNamesOneByOne();
    alikeNumbersAsTheyStand();
    alikeTextsOneByOne();
    alikeSignsOneByOne();
    alikeWhateverTheBlanks();
    alikeOfNoSuchTwo();
    alikeOfOneAndItself();
    alikeOfFullStatements();
    Due.close();
  }

  /** All kinds: 0 and 1 SOURCES, 2 a VIEW, 3 a COPY, 4 a FROZEN one. */
  private static TableCatalog kinds() {
    TableCatalog x = new TableCatalog();
    Due.made(x, "table a (x n);", 0);
    Due.made(x, "table b (p n, q n, r n, s n, t n, u n);", 1);
    Due.made(x, "view v = c : 1, e : 2 from b, a;", 2);
    Due.made(x, "copy w = c : 1 from v;", 3);
    Due.made(x, "copy z = c : 1, e : 2, f : 3 from a;", 4);
    Due.is("freeze(4)", x.freeze(4), true);
    return x;
  }

  // ---- 22

  private static void ownOfEachKind() {
    Due.by("22: A user owns a TABLE: true");
    TableCatalog x = kinds();
    for (int t = 0; t < 5; t++) {
      for (int user : new int[] {0, 1, 8, 9, t}) {
        Due.is("own(" + t + ", " + user + ")", x.own(t, user), true);
        Due.is("table(" + t + ", 8)", x.table(t, 8), user);
      }
    }
    for (int t = 0; t < 5; t++) {
      Due.is("table(" + t + ", 8)", x.table(t, 8), t);
    }
  }

  private static void ownOfNobody() {
    Due.by("22: (NONE: nobody that is told)");
    TableCatalog x = kinds();
    for (int t = 0; t < 5; t++) {
      Due.is("own(t, NONE), there was none", x.own(t, TableCatalog.NONE), true);
      Due.is("table(t, 8)", x.table(t, 8), -1);
    }
    for (int t = 0; t < 5; t++) {
      x.own(t, t);
    }
    for (int t = 4; t >= 0; t--) {
      Due.is("own(t, NONE)", x.own(t, -1), true);
      // of the VIEW the first behind it, of the COPY through the VIEW
      Due.is("table(t, 8)", x.table(t, 8), t == 3 ? 2 : t == 2 ? 1 : -1);
    }
    for (int t = 0; t < 5; t++) {
      Due.is("table(t, 8)", x.table(t, 8), -1);
    }
  }

  private static void ownOfNoneSuch() {
    Due.by("22: false when there are none such (no TABLE)");
    TableCatalog x = kinds();
    for (int t : NO_TABLES) {
      Due.is("own(" + t + ", 3)", x.own(t, 3), false);
      Due.is("own(" + t + ", NONE)", x.own(t, -1), false);
    }
    x.own(4, 3);
    x.drop(4);
    Due.is("own(4, 3), gone", x.own(4, 3), false);
    Due.is("own(4, NONE), gone", x.own(4, -1), false);
    Due.is("table(4, 8), gone", x.table(4, 8), -1);
    Due.is("table(0, 8)", x.table(0, 8), -1);
  }

  private static void ownByNoUser() {
    Due.by("22: false when there are none such (no user)");
    TableCatalog x = kinds();
    for (int round = 0; round < 2; round++) {
      for (int user : new int[] {10, 11, 16, 256, MAX, -2, -3, MIN}) {
        Due.is("own(0, " + user + ")", x.own(0, user), false);
        Due.is("table(0, 8), as it was", x.table(0, 8), round == 0 ? -1 : 4);
      }
      x.own(0, 4);
    }
  }

  // ---- 23

  private static void askIsNumbered() {
    Due.by("23: An ASK of a TABLE's COLUMNS: its number");
    TableCatalog x = kinds();
    for (int t = 0; t < 5; t++) {
      Due.is("ask(0, t, 1)", x.ask(0, t, 1), 2 * t);
      Due.is("ask(9, t, 1), once more", x.ask(9, t, 1), 2 * t + 1);
    }
  }

  private static void askOfAllColumns() {
    Due.by("23: COLUMNS told by bits");
    TableCatalog x = kinds();
    for (int bits = 1; bits < 32; bits++) {
      Due.is("ask(0, 1, " + bits + ")", x.ask(0, 1, bits), bits - 1);
    }
    Due.is("ask of the last alone", x.ask(0, 1, 32), 31);
    Due.is("ask of all six", x.ask(0, 1, 63), 32);
    Due.is("ask of the only one", x.ask(0, 0, 1), 33);
    Due.found(x, "asked(1, 5)", x.asked(1, 5), 31, 32);
    Due.found(x, "asked(1, 4)", x.asked(1, 4), 15, 16, 17, 18, 19, 20, 21, 22, 23, 24, 25, 26, 27, 28, 29, 30, 32);
    Due.found(x, "asked(1, 0)", x.asked(1, 0), 0, 2, 4, 6, 8, 10, 12, 14, 16, 18, 20, 22, 24, 26, 28, 30, 32);
    Due.found(x, "asked(0, 0)", x.asked(0, 0), 33);
  }

  private static void askOfNoColumn() {
    Due.by("23: (one at least)");
    TableCatalog x = kinds();
    for (int t = 0; t < 5; t++) {
      Due.is("ask(0, " + t + ", 0)", x.ask(0, t, 0), -1);
    }
    Due.is("ask(0, 0, 1)", x.ask(0, 0, 1), 0);
  }

  private static void askOfColumnsThatAreNotThere() {
    Due.by("23: NONE when that can't be (no such COLUMN)");
    TableCatalog x = kinds();
    int[] counts = {1, 6, 2, 1, 3};
    for (int t = 0; t < 5; t++) {
      int all = (1 << counts[t]) - 1;
      for (int bits : new int[] {all + 1, all + 2, 64, 65, 128, 256 | 1, 1 << 16 | 1, 1 << 30 | 1, MIN, MIN | 1, -1, MAX}) {
        Due.is("ask(0, " + t + ", " + bits + ")", x.ask(0, t, bits), -1);
      }
      Due.is("ask of all", x.ask(0, t, all), t);
    }
  }

  private static void askOfNoneSuch() {
    Due.by("23: NONE when that can't be (no such TABLE)");
    TableCatalog x = kinds();
    for (int t : NO_TABLES) {
      Due.is("ask(0, " + t + ", 1)", x.ask(0, t, 1), -1);
    }
    x.drop(4);
    Due.is("ask(0, 4, 1), gone", x.ask(0, 4, 1), -1);
    Due.is("ask(0, 0, 1)", x.ask(0, 0, 1), 0);
  }

  private static void askByNoUser() {
    Due.by("23: NONE when that can't be (no such user)");
    TableCatalog x = kinds();
    for (int user : new int[] {-1, -2, MIN, 10, 11, 16, 256, MAX}) {
      Due.is("ask(" + user + ", 0, 1)", x.ask(user, 0, 1), -1);
    }
    Due.found(x, "asked(0, 0)", x.asked(0, 0));
    Due.is("ask(9, 0, 1)", x.ask(9, 0, 1), 0);
    Due.is("ask(0, 0, 1)", x.ask(0, 0, 1), 1);
  }

  private static void askRefusedIsNotCounted() {
    Due.by("23: NONE when that can't be: no ASK is made");
    TableCatalog x = kinds();
    for (int i = 0; i < 40; i++) {
      Due.is("ask of no COLUMN", x.ask(0, 0, 0), -1);
      Due.is("ask " + i, x.ask(0, 0, 1), i);
    }
    Due.found(x, "unused", x.unused(0), 1, 2, 3, 4);
  }

  private static void askBeyondForty() {
    Due.by("23: NONE when that can't be (40 in all)");
    TableCatalog x = kinds();
    for (int i = 0; i < 39; i++) {
      Due.is("ask " + i, x.ask(i % 10, 0, 1), i);
    }
    Due.is("the 40th", x.ask(0, 3, 1), 39);
    Due.is("the 41st", x.ask(0, 4, 1), -1);
    Due.is("the 41st again", x.ask(9, 1, 63), -1);
    Due.found(x, "asked(3, 0)", x.asked(3, 0), 39);
    Due.found(x, "unused, not by the 41st", x.unused(0), 4);
    Due.is("asked(0, 0)", x.asked(0, 0), 39);
  }

  // ---- 24

  private static void unusedOnTheDayItself() {
    Due.by("24: that no ASK was of since a day (that day's count)");
    TableCatalog x = kinds();
    x.ask(0, 4, 1);
    x.today(10);
    x.ask(0, 0, 1);
    Due.found(x, "unused(0)", x.unused(0), 1, 2, 3);
    Due.found(x, "unused(1), a day behind the first", x.unused(1), 1, 2, 3, 4);
    Due.found(x, "unused(9)", x.unused(9), 1, 2, 3, 4);
    Due.found(x, "unused(10), that day", x.unused(10), 1, 2, 3, 4);
    Due.found(x, "unused(11), a day behind", x.unused(11), 0, 1, 2, 3, 4);
    x.today(11);
    Due.found(x, "unused(10)", x.unused(10), 1, 2, 3, 4);
    x.ask(0, 0, 1);
    Due.found(x, "unused(11), of both days", x.unused(11), 1, 2, 3, 4);
    x.today(30000);
    x.ask(0, 4, 1);
    Due.found(x, "unused(30000), the last day", x.unused(30000), 0, 1, 2, 3);
  }

  private static void unusedSinceAnyDay() {
    Due.by("24: since a day (whatever number)");
    TableCatalog x = kinds();
    for (int since : new int[] {0, 1, -1, 30000, MIN, MAX}) {
      Due.found(x, "unused(" + since + ") without an ASK", x.unused(since), 0, 1, 2, 3, 4);
    }
    x.ask(0, 0, 1);
    Due.found(x, "unused(-1)", x.unused(-1), 1, 2, 3, 4);
    Due.found(x, "unused(MIN)", x.unused(MIN), 1, 2, 3, 4);
    Due.found(x, "unused(MAX)", x.unused(MAX), 0, 1, 2, 3, 4);
    Due.found(x, "unused(30001)", x.unused(30001), 0, 1, 2, 3, 4);
  }

  private static void unusedThroughWhateverSteps() {
    Due.by("24: nor of one that has them behind its from, through whatever steps");
    TableCatalog x = new TableCatalog();
    Due.made(x, "table a (x n);", 0);
    for (int t = 1; t < 15; t++) {
      Due.made(x, "view " + (char) ('a' + t) + " = x : 1 from " + (char) ('a' + t - 1) + ";", t);
    }
    Due.made(x, "copy z = x : 1 from o;", 15);
    x.ask(0, 15, 1);
    Due.found(x, "unused(0), all used by the last", x.unused(0));
    TableCatalog y = kinds();
    Due.made(y, "table e (x n);", 5);
    Due.made(y, "view q = c : 1 from e, z, v;", 6);
    y.ask(0, 6, 1);
    Due.found(y, "unused(0), by the second and third as well", y.unused(0), 3);
    TableCatalog w = kinds();
    w.ask(0, 3, 1);
    Due.found(w, "unused(0), not by its own name alone", w.unused(0), 4);
  }

  private static void unusedNotTheOtherWay() {
    Due.by("24: one that has them behind its from (not the other way)");
    TableCatalog x = kinds();
    x.ask(0, 1, 63);
    Due.found(x, "unused(0)", x.unused(0), 0, 2, 3, 4);
    x.ask(0, 2, 1);
    Due.found(x, "unused(0)", x.unused(0), 3, 4);
  }

  private static void unusedByAsksThatAreGone() {
    Due.by("24: that no ASK was of (those gone with their TABLE are none)");
    TableCatalog x = kinds();
    x.ask(0, 3, 1);
    Due.found(x, "unused(0)", x.unused(0), 4);
    Due.is("drop(3)", x.drop(3), 1);
    Due.found(x, "unused(0), none that is gone", x.unused(0), 0, 1, 2, 4);
  }

  private static void unusedOverFrozenOnes() {
    Due.by("24: one that has them behind its from (a FROZEN one has none)");
    TableCatalog x = kinds();
    x.ask(0, 4, 1);
    Due.found(x, "unused(0), a is not behind z any more", x.unused(0), 0, 1, 2, 3);
    x.ask(0, 3, 1);
    Due.found(x, "unused(0)", x.unused(0));
    x.freeze(3);
    Due.found(x, "unused(0), FROZEN since the ASK", x.unused(0), 0, 1, 2);
  }

  private static void unusedOfNoneAndOfAll() {
    Due.by("24: how many (none, all that there can be)");
    TableCatalog x = new TableCatalog();
    Due.found(x, "unused(0) without TABLES", x.unused(0));
    int[] all = new int[16];
    for (int t = 0; t < 16; t++) {
      Due.made(x, "table " + (char) ('a' + t) + " (x n);", t);
      all[t] = t;
    }
    Due.found(x, "unused(0), all", x.unused(0), all);
    x.ask(0, 15, 1);
    Due.is("unused(0), all but the last", x.unused(0), 15);
    for (int t = 0; t < 15; t++) {
      x.ask(0, t, 1);
    }
    Due.found(x, "unused(0), none", x.unused(0));
  }

  // ---- 25

  /** Whether two STATEMENTS are alike, each told from its = on. */
  private static int alike(String one, String other) {
    TableCatalog x = Due.two();
    Due.made(x, "view v " + one, 2);
    Due.made(x, "copy other " + other, 3);
    int answer = x.alike(2, 3);
    Due.is("the other way round", x.alike(3, 2), answer);
    return answer;
  }

  private static void unlike(String was, String is) {
    String other = TEXT.replace(was, is);
    Due.is("alike with " + is + " for " + was, alike(TEXT, other), 0);
    Due.is("alike, both with " + is, alike(other, other), 1);
  }

  private static void alikeFromTheSignOn() {
    Due.by("25: their STATEMENTS from the = on are the same");
    Due.is("a VIEW and a COPY, of other NAMES", alike(TEXT, TEXT), 1);
    TableCatalog x = Due.two();
    Due.made(x, "view v " + TEXT, 2);
    Due.made(x, "view q " + TEXT, 3);
    Due.made(x, "copy w " + TEXT, 4);
    Due.made(x, "copy u " + TEXT, 5);
    for (int a = 2; a < 6; a++) {
      for (int b = 2; b < 6; b++) {
        if (a != b) {
          Due.is("alike(" + a + ", " + b + ")", x.alike(a, b), 1);
        }
      }
    }
    unlike("c :", "c : 1, d :");
    unlike(", e : 'q r' & str(len(a.t))", "");
    unlike(" where a.n < b.n", "");
    unlike(" - 3", "");
    unlike(", b where a.n < b.n", "");
  }

  private static void alikeNamesOneByOne() {
    Due.by("25: NAMES one by one");
    unlike("c :", "d :");
    unlike("e :", "ee :");
    unlike("a, b", "b, a");
    unlike("a.n + 12", "b.n + 12");
    unlike("a.n < b.n", "b.n < a.n");
    unlike("len(a.t)", "len(b.t)");
    unlike("c :", "abcdefgh :");
    Due.is("the last of eight letters", alike("=abcdefgh:1 from a;", "=abcdefgi:1 from a;"), 0);
    Due.is("the first of eight letters", alike("=abcdefgh:1 from a;", "=bbcdefgh:1 from a;"), 0);
  }

  private static void alikeNumbersAsTheyStand() {
    Due.by("25: numbers (as they stand: 07 is not 7)");
    unlike("12", "012");
    unlike("12", "0012");
    unlike("12", "13");
    unlike("12", "1");
    unlike("3", "0003");
    Due.is("07 and 7", alike("=c:07 from a;", "=c:7 from a;"), 0);
    Due.is("07 and 07", alike("=c:07 from a;", "=c : 07 from a;"), 1);
    Due.is("0 and 00", alike("=c:0 from a;", "=c:00 from a;"), 0);
    Due.is("0000 and 000", alike("=c:0000 from a;", "=c:000 from a;"), 0);
  }

  private static void alikeTextsOneByOne() {
    Due.by("25: texts one by one");
    unlike("'q r'", "'qr'");
    unlike("'q r'", "'q  r'");
    unlike("'q r'", "' q r'");
    unlike("'q r'", "'q r '");
    unlike("'q r'", "''");
    unlike("'q r'", "' '");
    unlike("'q r'", "'q s'");
    Due.is("none in both", alike("=c:'' from a;", "=c:'' from a;"), 1);
    Due.is("a blank and none", alike("=c:' ' from a;", "=c:'' from a;"), 0);
  }

  private static void alikeSignsOneByOne() {
    Due.by("25: signs one by one");
    unlike("a.n + 12", "a.n - 12");
    unlike("12 - 3", "12 + 3");
    unlike("a.n < b.n", "a.n = b.n");
    unlike("str(len(a.t))", "str(len(a.t)) & ''");
    Due.is("- and + of days", alike("=c:a.d-1 from a;", "=c:a.d+1 from a;"), 0);
    Due.is(", and ,", alike("=c:1,e:1 from a,b;", "=c:1,e:1 from a,b;"), 1);
  }

  private static void alikeWhateverTheBlanks() {
    Due.by("25: NAMES, numbers, texts and signs (blanks between are none)");
    String tight = "=c:a.n+12-3,e:'q r'&str(len(a.t))from a,b where a.n<b.n;";
    String wide = "\n=\n c : a . n + 12 - 3 , e\n: 'q r' & str ( len ( a . t ) )\n\nfrom  a , b\nwhere a . n < b . n\n; \n";
    Due.is("tight and as before", alike(tight, TEXT), 1);
    Due.is("wide and as before", alike(wide, TEXT), 1);
    Due.is("tight and wide", alike(tight, wide), 1);
    Due.is("no blank behind digits", alike("=c:1from a where 1<2;", "=c:1 from a where 1<2;"), 1);
    // NAMES side by side do not run into one
    TableCatalog x = new TableCatalog();
    Due.made(x, "table a (p n, pfromq n);", 0);
    Due.made(x, "table r (x n);", 1);
    Due.made(x, "table qfromr (x n);", 2);
    Due.made(x, "view v = c : a.p from qfromr, a;", 3);
    Due.made(x, "view w = c : a.pfromq from r, a;", 4);
    Due.is("alike(3, 4)", x.alike(3, 4), 0);
  }

  private static void alikeOfNoSuchTwo() {
    Due.by("25: two TABLES, no SOURCES, not FROZEN; NONE when there are no such two");
    TableCatalog x = kinds();
    Due.is("alike(2, 3), a VIEW and a COPY", x.alike(2, 3), 0);
    for (int t : new int[] {0, 1, 4}) {
      Due.is("alike(2, " + t + ")", x.alike(2, t), -1);
      Due.is("alike(" + t + ", 3)", x.alike(t, 3), -1);
    }
    Due.is("alike(0, 1), both SOURCES", x.alike(0, 1), -1);
    for (int t : NO_TABLES) {
      Due.is("alike(2, " + t + ")", x.alike(2, t), -1);
      Due.is("alike(" + t + ", 2)", x.alike(t, 2), -1);
      Due.is("alike(" + t + ", " + t + ")", x.alike(t, t), -1);
    }
    Due.made(x, "copy u = c : 1 from v;", 5);
    Due.is("alike(3, 5)", x.alike(3, 5), 1);
    x.freeze(5);
    Due.is("alike(3, 5), FROZEN", x.alike(3, 5), -1);
    Due.is("alike(5, 4), both FROZEN", x.alike(5, 4), -1);
    Due.is("drop(3)", x.drop(3), 0);
    Due.is("alike(2, 3), gone", x.alike(2, 3), -1);
    Due.is("alike(3, 2), gone", x.alike(3, 2), -1);
  }

  private static void alikeOfOneAndItself() {
    Due.by("25: two TABLES; NONE when there are no such two (one and itself are no two)");
    TableCatalog x = kinds();
    for (int t = 0; t < 5; t++) {
      Due.is("alike(" + t + ", " + t + ")", x.alike(t, t), -1);
    }
  }

  private static void alikeOfFullStatements() {
    Due.by("25: one by one (to the last)");
    String head = "=c:1 from a where '" + "q".repeat(363);
    Due.is("the same", alike(head + "x'='';", head + "x'='';"), 1);
    Due.is("another last letter", alike(head + "x'='';", head + "y'='';"), 0);
    Due.is("a text more", alike(head + "x'='';", head + "x'='z';"), 0);
    Due.is("the first letter", alike(head + "x'='';", "=c:1 from a where 'p" + head.substring(20) + "x'='';"), 0);
    Due.is("a letter less", alike(head + "x'='';", head + "'='';"), 0);
  }
}
