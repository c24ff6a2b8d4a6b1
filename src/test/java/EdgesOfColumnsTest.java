/** Promises 9 to 15: a test of its own for each sentence that names an edge. */
public final class EdgesOfColumnsTest {
  private static final int MIN = Integer.MIN_VALUE;
  private static final int MAX = Integer.MAX_VALUE;
  // 1 << 29 is the table 0 again, if it is taken times eight without a look
  private static final int[] NO_TABLES = {-1, -2, -16, 15, 16, 17, 32, 1 << 29, MIN, MAX};
  // eight columns on or back another table's would stand
  private static final int[] NO_COLUMNS = {-1, -2, -8, 6, 7, 8, 16, 1 << 29, MIN, MAX};

  public static void main(String[] args) {
    fromEachOnceAndInOrder();
    fromInOneStepOrInAll();
    fromOfSourcesAlone();
    fromAsManyAsThereCanBe();
    fromOfNoneSuch();
    fromOfOthers();
    touchEachOnceAndInOrder();
    touchAsManyAsThereCanBe();
    touchOfNone();
    touchOfNoneSuch();
    askedOfTheColumnItself();
    askedOfThoseItTouches();
    askedInOrderAndOnce();
    askedOfAllForty();
    askedOfNoneSuch();
    foundAheadOfAny();
    foundOfNoneSuch();
    foundOfTheLatest();
    retypeToEachType();
    retypeFollowsTheFormulas();
    retypeTellsHowManyOthers();
    retypeOfNoOthers();
    retypeOfNoColumn();
    retypeToNoType();
    retypeOfNoSource();
    retypeRefusedByAFormula();
    retypeNotRefused();
    retypeRefusedByAWhere();
    retypeRefusedByAllThereCanBe();
    retypeLooksWithTheTypesAhead();
    retypeKeepsWhatCannotBe();
    retypeRefusedChangesNothing();
    retypePassesGoneAndFrozenOnes();
    dropWithItsAsks();
    dropOfNoneSuch();
    dropOfOneBehindAnother();
    dropRefusedChangesNothing();
    droppedKeepsItsNumber();
    droppedNameIsFree();
    freezeACopy();
    freezeOfNoneSuch();
    freezeTwice();
    Due.close();
  }

  /** Sixteen TABLES of six COLUMNS, each VIEW's made from all six of the one ahead. */
  private static TableCatalog deep() {
    TableCatalog x = new TableCatalog();
    Due.made(x, "table a (p n, q n, r n, s n, t n, u n);", 0);
    for (int t = 1; t < 16; t++) {
      String b = "" + (char) ('a' + t - 1);
      StringBuilder text = new StringBuilder("view " + (char) ('a' + t) + "=");
      for (char c = 'p'; c <= 'u'; c++) {
        text.append(c).append(":" + b + ".u+" + b + ".t+" + b + ".s+" + b + ".r+" + b + ".q+" + b + ".p");
        text.append(c < 'u' ? ',' : ' ');
      }
      Due.made(x, text + "from " + b + ";", t);
    }
    return x;
  }

  private static int[] allOf(int firstTable, int lastTable) {
    int[] all = new int[(lastTable - firstTable + 1) * 6];
    for (int i = 0; i < all.length; i++) {
      all[i] = (firstTable + i / 6) * 8 + i % 6;
    }
    return all;
  }

  // ---- 9

  private static void fromEachOnceAndInOrder() {
    Due.by("9: (each once, in order: 8 times the TABLE, and the COLUMN)");
    TableCatalog x = Due.two();
    Due.made(x, "view v = c : b.d - b.d + a.n - b.n + a.n + 1, e : len(b.t & a.t & b.t) from b, a;", 2);
    Due.found(x, "from(2, 0, 0)", x.from(2, 0, 0), 0, 8, 10);
    Due.found(x, "from(2, 1, 0)", x.from(2, 1, 0), 1, 9);
    // by two ways to the same
    Due.made(x, "view w = c : v.c + v.e + a.n, e : v.e from v, a;", 3);
    Due.found(x, "from(3, 0, 1)", x.from(3, 0, 1), 0, 1, 8, 9, 10, 16, 17);
    Due.found(x, "from(3, 0, 2)", x.from(3, 0, 2), 0, 1, 8, 9, 10);
    Due.found(x, "from(3, 0, 0)", x.from(3, 0, 0), 0, 16, 17);
    Due.found(x, "from(3, 1, 1)", x.from(3, 1, 1), 1, 9, 17);
  }

  private static void fromInOneStepOrInAll() {
    Due.by("9: 0 in one step, 1 in all");
    TableCatalog x = Due.two();
    Due.made(x, "view v = c : a.n from a where a.d = a.d;", 2);
    Due.made(x, "copy w = c : v.c from v, b where b.n = v.c;", 3);
    Due.made(x, "view u = c : w.c from w;", 4);
    Due.found(x, "from(4, 0, 0)", x.from(4, 0, 0), 24);
    Due.found(x, "from(4, 0, 1)", x.from(4, 0, 1), 0, 16, 24);
    Due.found(x, "from(2, 0, 0)", x.from(2, 0, 0), 0);
    Due.found(x, "from(2, 0, 1)", x.from(2, 0, 1), 0);
    for (int how = 0; how < 3; how++) {
      Due.found(x, "from a SOURCE's", x.from(0, 0, how));
    }
  }

  private static void fromOfSourcesAlone() {
    Due.by("9: 2 in all, of SOURCES alone");
    TableCatalog x = Due.two();
    Due.made(x, "copy v = c : a.n from a;", 2);
    Due.made(x, "view w = c : v.c + b.n, e : v.c from v, b;", 3);
    Due.found(x, "from(3, 0, 2)", x.from(3, 0, 2), 0, 8);
    Due.found(x, "from(3, 1, 2)", x.from(3, 1, 2), 0);
    Due.is("freeze(2)", x.freeze(2), true);
    // a FROZEN one is no SOURCE, and comes FROM none
    Due.found(x, "from(3, 0, 2)", x.from(3, 0, 2), 8);
    Due.found(x, "from(3, 0, 1)", x.from(3, 0, 1), 8, 16);
    Due.found(x, "from(3, 1, 2)", x.from(3, 1, 2));
    Due.found(x, "from(2, 0, 2)", x.from(2, 0, 2));
  }

  private static void fromAsManyAsThereCanBe() {
    Due.by("9: how many (all that there can be)");
    TableCatalog x = deep();
    Due.found(x, "from(15, 5, 1)", x.from(15, 5, 1), allOf(0, 14));
    Due.found(x, "from(15, 5, 2)", x.from(15, 5, 2), allOf(0, 0));
    Due.found(x, "from(15, 5, 0)", x.from(15, 5, 0), allOf(14, 14));
    Due.found(x, "from(1, 0, 1)", x.from(1, 0, 1), allOf(0, 0));
  }

  private static void fromOfNoneSuch() {
    Due.by("9: NONE when there is none such");
    for (int how = 0; how < 3; how++) {
      TableCatalog x = Due.two();
      Due.made(x, "view v = c : a.n, e : b.n from a, b;", 2);
      Due.made(x, "view w = c : 1 from v;", 3);
      for (int t : NO_TABLES) {
        Due.is("from(" + t + ", 0, how)", x.from(t, 0, how), -1);
        Due.is("from(" + t + ", 8, how)", x.from(t, 8, how), -1);
      }
      for (int t = 0; t < 3; t++) {
        for (int c : NO_COLUMNS) {
          Due.is("from(" + t + ", " + c + ", how)", x.from(t, c, how), -1);
        }
      }
      Due.is("from(0, 3, how)", x.from(0, 3, how), -1);
      Due.is("from(2, 2, how)", x.from(2, 2, how), -1);
      Due.is("from(2, 1, how)", x.from(2, 1, how), 1);
      x.drop(3);
      Due.is("from(3, 0, how), gone", x.from(3, 0, how), -1);
      Due.is("from(4, 0, how), not yet", x.from(4, 0, how), -1);
    }
  }

  private static void fromOfOthers() {
    Due.by("9: NONE for others");
    TableCatalog x = Due.two();
    Due.made(x, "view v = c : a.n from a;", 2);
    for (int how : new int[] {-1, -2, 3, 4, 256, 257, 258, MIN, MAX}) {
      Due.is("from(2, 0, " + how + ")", x.from(2, 0, how), -1);
      Due.is("from(0, 0, " + how + ")", x.from(0, 0, how), -1);
    }
  }

  // ---- 10

  private static void touchEachOnceAndInOrder() {
    Due.by("10: FOUND are COLUMNS that are TOUCHED by a COLUMN, likewise");
    TableCatalog x = Due.two();
    Due.made(x, "view v = c : a.n + a.n, e : 1, f : b.n - a.n from b, a where a.n < a.n + b.n;", 2);
    Due.made(x, "view w = c : v.f + v.c, e : a.n, f : 1 from v, a;", 3);
    Due.found(x, "touch(0, 0)", x.touch(0, 0), 16, 17, 18, 24, 25);
    Due.found(x, "touch(1, 0)", x.touch(1, 0), 16, 17, 18, 24);
    Due.found(x, "touch(2, 2)", x.touch(2, 2), 24);
  }

  private static void touchAsManyAsThereCanBe() {
    Due.by("10: how many (all that there can be)");
    TableCatalog x = deep();
    Due.found(x, "touch(0, 0)", x.touch(0, 0), allOf(1, 15));
    Due.found(x, "touch(0, 5)", x.touch(0, 5), allOf(1, 15));
    Due.found(x, "touch(14, 3)", x.touch(14, 3), allOf(15, 15));
  }

  private static void touchOfNone() {
    Due.by("10: how many (none)");
    TableCatalog x = deep();
    Due.found(x, "touch(15, 0)", x.touch(15, 0));
    TableCatalog y = Due.two();
    Due.made(y, "view v = c : 1 from a;", 2);
    for (int c = 0; c < 3; c++) {
      Due.found(y, "touch(0, c)", y.touch(0, c));
    }
    Due.found(y, "touch(2, 0)", y.touch(2, 0));
  }

  private static void touchOfNoneSuch() {
    Due.by("10: NONE when there is none such");
    TableCatalog x = Due.two();
    Due.made(x, "view v = c : a.n from a, b where a.n < b.n;", 2);
    Due.made(x, "view w = c : a.n from a;", 3);
    for (int t : NO_TABLES) {
      Due.is("touch(" + t + ", 0)", x.touch(t, 0), -1);
      Due.is("touch(" + t + ", 8)", x.touch(t, 8), -1);
    }
    for (int t = 0; t < 3; t++) {
      for (int c : NO_COLUMNS) {
        Due.is("touch(" + t + ", " + c + ")", x.touch(t, c), -1);
      }
    }
    Due.is("touch(0, 3)", x.touch(0, 3), -1);
    Due.is("touch(2, 1)", x.touch(2, 1), -1);
    x.drop(3);
    Due.is("touch(3, 0), gone", x.touch(3, 0), -1);
    Due.found(x, "touch(0, 0), none of those gone", x.touch(0, 0), 16);
  }

  // ---- 11

  private static void askedOfTheColumnItself() {
    Due.by("11: the ASKS of a COLUMN");
    TableCatalog x = new TableCatalog();
    Due.made(x, "table a (p n, q n, r n, s n, t n, u n);", 0);
    Due.made(x, "table b (p n, q n, r n, s n, t n, u n);", 1);
    for (int c = 0; c < 6; c++) {
      Due.is("ask", x.ask(0, 0, 1 << c), c);
    }
    Due.is("ask of all", x.ask(0, 0, 63), 6);
    for (int c = 0; c < 6; c++) {
      Due.found(x, "asked(0, c)", x.asked(0, c), c, 6);
      Due.found(x, "asked(1, c)", x.asked(1, c));
    }
  }

  private static void askedOfThoseItTouches() {
    Due.by("11: or one that is TOUCHED by it");
    TableCatalog x = Due.two();
    Due.made(x, "view v = c : a.n, e : 1 from a, b;", 2);
    Due.made(x, "view w = c : 1, e : 2 from v where v.c < 1;", 3);
    x.ask(0, 3, 2);
    x.ask(0, 2, 2);
    x.ask(0, 2, 1);
    x.ask(0, 1, 7);
    x.ask(0, 0, 6);
    Due.found(x, "asked(0, 0)", x.asked(0, 0), 0, 2);
    Due.found(x, "asked(2, 0)", x.asked(2, 0), 0, 2);
    Due.found(x, "asked(2, 1)", x.asked(2, 1), 1);
    Due.found(x, "asked(3, 0)", x.asked(3, 0));
    Due.found(x, "asked(0, 1)", x.asked(0, 1), 4);
    Due.found(x, "asked(1, 0)", x.asked(1, 0), 3);
  }

  private static void askedInOrderAndOnce() {
    Due.by("11: the ASKS (in order)");
    TableCatalog x = Due.two();
    Due.made(x, "view v = c : a.n, e : a.n from a where a.n < 1;", 2);
    Due.made(x, "view w = c : a.n, e : a.n from a where a.n < 1;", 3);
    x.ask(0, 3, 3);
    x.ask(0, 0, 7);
    x.ask(9, 2, 3);
    x.ask(9, 3, 3);
    x.today(5);
    x.ask(5, 0, 1);
    Due.found(x, "asked(0, 0)", x.asked(0, 0), 0, 1, 2, 3, 4);
    x.drop(2);
    Due.found(x, "asked(0, 0), one gone", x.asked(0, 0), 0, 1, 3, 4);
    x.ask(0, 0, 1);
    Due.found(x, "asked(0, 0), one more", x.asked(0, 0), 0, 1, 3, 4, 5);
  }

  private static void askedOfAllForty() {
    Due.by("11: how many (all that there can be, none)");
    TableCatalog x = deep();
    int[] all = new int[40];
    Due.found(x, "asked(0, 0) of none", x.asked(0, 0));
    for (int i = 0; i < 40; i++) {
      x.ask(0, 15 - i % 16, 1);
      all[i] = i;
    }
    Due.found(x, "asked(0, 0)", x.asked(0, 0), all);
    Due.found(x, "asked(15, 0)", x.asked(15, 0), 0, 16, 32);
    Due.found(x, "asked(15, 1)", x.asked(15, 1));
  }

  private static void askedOfNoneSuch() {
    Due.by("11: NONE when there is none such");
    TableCatalog x = Due.two();
    Due.made(x, "view v = c : a.n from a;", 2);
    for (int t = 0; t < 3; t++) {
      x.ask(0, t, 1);
    }
    for (int t : NO_TABLES) {
      Due.is("asked(" + t + ", 0)", x.asked(t, 0), -1);
      Due.is("asked(" + t + ", 8)", x.asked(t, 8), -1);
    }
    for (int t = 0; t < 3; t++) {
      for (int c : NO_COLUMNS) {
        Due.is("asked(" + t + ", " + c + ")", x.asked(t, c), -1);
      }
    }
    Due.is("asked(0, 3)", x.asked(0, 3), -1);
    Due.is("asked(2, 1)", x.asked(2, 1), -1);
    x.drop(2);
    Due.is("asked(2, 0), gone", x.asked(2, 0), -1);
    Due.found(x, "asked(0, 0)", x.asked(0, 0), 0);
  }

  // ---- 12

  private static void foundAheadOfAny() {
    Due.by("12: NONE when there is none such (ahead of any)");
    TableCatalog x = Due.two();
    for (int k : new int[] {0, 1, -1, 127, 128, MIN, MAX}) {
      Due.is("found(" + k + ")", x.found(k), -1);
    }
  }

  private static void foundOfNoneSuch() {
    Due.by("12: FOUND k; NONE when there is none such");
    TableCatalog x = deep();
    Due.is("touch(0, 0)", x.touch(0, 0), 90);
    Due.is("found(0), the first", x.found(0), 8);
    Due.is("found(89), the last", x.found(89), 125);
    for (int k : new int[] {-1, -2, 90, 91, 127, 128, 256, MIN, MAX}) {
      Due.is("found(" + k + ")", x.found(k), -1);
    }
    Due.is("found(89) again", x.found(89), 125);
  }

  private static void foundOfTheLatest() {
    Due.by("12: FOUND k (of what was found last)");
    TableCatalog x = deep();
    x.ask(0, 1, 1);
    x.promise(3, 0);
    x.promise(4, 0);
    Due.is("touch", x.touch(0, 0), 90);
    Due.found(x, "broken", x.broken(), 3, 4);
    Due.found(x, "asked", x.asked(1, 0), 0);
    Due.found(x, "from", x.from(1, 0, 0), allOf(0, 0));
    Due.found(x, "unused", x.unused(0), 2, 3, 4, 5, 6, 7, 8, 9, 10, 11, 12, 13, 14, 15);
    Due.found(x, "touch of none", x.touch(15, 0));
    Due.is("retype", x.retype(0, 5, 't'), -2);
    Due.is("found(5) of it", x.found(5), 13);
    Due.found(x, "from none", x.from(0, 0, 0));
    Due.is("broken", x.broken(), 2);
    Due.found(x, "unused none", x.unused(1), 0, 1, 2, 3, 4, 5, 6, 7, 8, 9, 10, 11, 12, 13, 14, 15);
    Due.found(x, "asked none", x.asked(2, 0));
    Due.is("broken", x.broken(), 2);
    x.fed(0, 0, 0);
    Due.found(x, "broken none", x.broken());
  }

  // ---- 13

  private static void retypeToEachType() {
    Due.by("13: A COLUMN of a SOURCE has another TYPE (its letter)");
    for (char was : "ntd".toCharArray()) {
      for (char is : "ntd".toCharArray()) {
        TableCatalog x = new TableCatalog();
        Due.made(x, "table a (p n, q " + was + ", r t);", 0);
        Due.is("retype", x.retype(0, 1, is), 0);
        Due.is("type(0, 1)", x.type(0, 1), is);
        Due.is("type(0, 0)", x.type(0, 0), 'n');
        Due.is("type(0, 2)", x.type(0, 2), 't');
        Due.made(x, "view v = c : a.q from a;", 1);
        Due.is("type(1, 0), made since", x.type(1, 0), is);
        Due.is("retype back", x.retype(0, 1, was), was == is ? 0 : 1);
        Due.is("type(1, 0)", x.type(1, 0), was);
      }
    }
  }

  private static void retypeFollowsTheFormulas() {
    Due.by("13: and those that come FROM it likewise, as their FORMULAS tell");
    TableCatalog x = Due.two();
    Due.made(x, "view v = c : a.n, e : a.n + 1, f : a.n - a.n, g : 'x', h : a.d from a where a.n = a.n;", 2);
    Due.made(x, "copy w = c : v.c - v.e, e : v.e - 5, f : v.f, g : str(v.f), h : v.h from v;", 3);
    Due.is("retype(0, 0, d)", x.retype(0, 0, 'd'), 3);
    for (int c = 0; c < 5; c++) {
      Due.is("type(2, " + c + ")", x.type(2, c), "ddntd".charAt(c));
      Due.is("type(3, " + c + ")", x.type(3, c), "ndntd".charAt(c));
    }
    // the rows of v hang on it, but no FORMULA there comes FROM it
    Due.made(x, "view u = c : 1, e : b.n from a, b where a.n = a.d;", 4);
    Due.is("type(4, 1)", x.type(4, 1), 'n');
    Due.is("retype(1, 0, d)", x.retype(1, 0, 'd'), 1);
    Due.is("type(4, 0)", x.type(4, 0), 'n');
    Due.is("type(4, 1)", x.type(4, 1), 'd');
  }

  private static void retypeTellsHowManyOthers() {
    Due.by("13: how many others are of another TYPE then");
    TableCatalog x = new TableCatalog();
    Due.made(x, "table a (x n);", 0);
    for (int t = 1; t < 16; t++) {
      String b = (char) ('a' + t - 1) + ".x";
      String six = "x:" + b + ",p:" + b + ",q:" + b + ",r:" + b + ",s:" + b + ",t:" + b;
      Due.made(x, "view " + (char) ('a' + t) + " = " + six + " from " + (char) ('a' + t - 1) + ";", t);
    }
    Due.is("retype(0, 0, t), all that there can be", x.retype(0, 0, 't'), 90);
    Due.is("type(15, 5)", x.type(15, 5), 't');
    Due.is("retype(0, 0, t), as they are", x.retype(0, 0, 't'), 0);
    Due.is("retype(0, 0, d)", x.retype(0, 0, 'd'), 90);
  }

  private static void retypeOfNoOthers() {
    Due.by("13: how many others (none)");
    TableCatalog x = Due.two();
    Due.made(x, "view v = c : 1, e : b.n from a, b where a.n = a.n;", 2);
    Due.made(x, "view w = c : a.d - a.d, e : a.n + 1 from a;", 3);
    Due.is("retype(0, 1, d), used by none", x.retype(0, 1, 'd'), 0);
    Due.is("retype(0, 2, n), d - d and n - n are n", x.retype(0, 2, 'n'), 0);
    Due.is("retype(0, 2, d) again", x.retype(0, 2, 'd'), 0);
    Due.is("retype(0, 0, d)", x.retype(0, 0, 'd'), 1);
    Due.is("type(3, 1)", x.type(3, 1), 'd');
  }

  private static void retypeOfNoColumn() {
    Due.by("13: -1 no such COLUMN");
    TableCatalog x = Due.two();
    Due.made(x, "view v = c : 1 from a;", 2);
    Due.made(x, "table e (x n);", 3);
    x.drop(3);
    for (int t : NO_TABLES) {
      Due.is("retype(" + t + ", 0, t)", x.retype(t, 0, 't'), -1);
      Due.is("retype(" + t + ", 8, t)", x.retype(t, 8, 't'), -1);
    }
    for (int c : NO_COLUMNS) {
      Due.is("retype(0, " + c + ", t)", x.retype(0, c, 't'), -1);
      Due.is("retype(1, " + c + ", t)", x.retype(1, c, 't'), -1);
    }
    Due.is("retype(0, 3, t)", x.retype(0, 3, 't'), -1);
    Due.is("retype(3, 0, t), gone", x.retype(3, 0, 't'), -1);
    Due.is("retype(4, 0, t), not yet", x.retype(4, 0, 't'), -1);
    for (int c = 0; c < 3; c++) {
      Due.is("type(0, c)", x.type(0, c), "ntd".charAt(c));
      Due.is("type(1, c)", x.type(1, c), "ntd".charAt(c));
    }
  }

  private static void retypeToNoType() {
    Due.by("13: -1 no such TYPE");
    TableCatalog x = Due.two();
    for (int letter = -2; letter < 256; letter++) {
      if (letter != 'n' && letter != 't' && letter != 'd') {
        Due.is("retype(0, 0, " + letter + ")", x.retype(0, 0, letter), -1);
      }
    }
    for (int letter : new int[] {'n' + 256, 't' + 256, 'd' + 256, 't' - 256, 't' | 1 << 16, 't' | MIN, MIN, MAX}) {
      Due.is("retype(0, 0, " + letter + ")", x.retype(0, 0, letter), -1);
    }
    Due.is("type(0, 0)", x.type(0, 0), 'n');
  }

  private static void retypeOfNoSource() {
    Due.by("13: -1 no SOURCE's");
    TableCatalog x = Due.two();
    Due.made(x, "view v = c : 1, e : a.n from a;", 2);
    Due.made(x, "copy w = c : 1 from a;", 3);
    Due.made(x, "copy u = c : 1 from a;", 4);
    x.freeze(4);
    for (int t = 2; t < 5; t++) {
      for (char type : "ntd".toCharArray()) {
        Due.is("retype(" + t + ", 0, " + type + ")", x.retype(t, 0, type), -1);
      }
      Due.is("type(t, 0)", x.type(t, 0), 'n');
    }
  }

  private static void retypeRefusedByAFormula() {
    Due.by("13: -2 it can't be: FOUND are the COLUMNS in whose FORMULAS a TYPE would be one that can't be");
    // the TYPE it has, the one it would have, a FORMULA
    String[] refused = {"nt a.n + 1", "nt 1 + a.n", "nd 1 + a.n", "nt a.n - 1", "nt 1 - a.n", "nd 1 - a.n", "nt a.d + a.n",
      "nd a.d + a.n", "nt a.d - a.n", "dn a.d - b.d", "dt a.d - b.d", "dt b.d - a.d", "dt a.d + 1", "dt a.d - 1",
      "tn a.t & 'x'", "td 'x' & a.t", "tn 'x' & a.t", "tn len(a.t)", "td len(a.t)", "nt str(a.n)", "nd str(a.n)",
      "nt str(len(str(a.n)))", "nt 1 + 2 + 3 + 4 + 5 + a.n", "nd 'x' & str(len(str(a.n)))"};
    for (String change : refused) {
      TableCatalog x = Due.two();
      Due.made(x, "view v = c : 1, e : " + change.substring(3) + ", f : 2 from a, b;", 2);
      int c = "ntd".indexOf(change.charAt(0));
      Due.is("retype " + change, x.retype(0, c, change.charAt(1)), -2);
      Due.found(x, "retype " + change, 1, 17);
      Due.is("type(0, c)", x.type(0, c), change.charAt(0));
    }
  }

  private static void retypeNotRefused() {
    Due.by("13: -2 it can't be (not, if every TYPE is one that can be)");
    // the TYPE it has, the one it has then, the FORMULA's then, the FORMULA
    String[] taken = {"ndd a.n + 1", "ndd a.n - 1", "ndn a.n - a.n", "dnn a.d + 1", "dnd b.d - a.d", "ndn a.d - a.n",
      "ndn len('x')", "tdn 7", "ntt a.n", "tnn a.t", "dtn b.d - b.d"};
    for (String change : taken) {
      TableCatalog x = Due.two();
      Due.made(x, "view v = c : 1, e : " + change.substring(4) + ", f : 2 from a, b where 1 = 2;", 2);
      int c = "ntd".indexOf(change.charAt(0));
      int others = x.type(2, 1) == change.charAt(2) ? 0 : 1;
      Due.is("retype " + change, x.retype(0, c, change.charAt(1)), others);
      Due.is("type(0, c)", x.type(0, c), change.charAt(1));
      Due.is("type(2, 1)", x.type(2, 1), change.charAt(2));
    }
  }

  private static void retypeRefusedByAWhere() {
    Due.by("13: (and 8 times the TABLE and 6 for a where)");
    for (String where : new String[] {"a.n < b.n", "b.n = a.n", "1 < a.n", "a.n + 1 = 2", "len(str(a.n)) < 3"}) {
      TableCatalog x = Due.two();
      Due.made(x, "view v = c : 1, e : a.n from a, b where " + where + ";", 2);
      Due.is("retype under " + where, x.retype(0, 0, 't'), -2);
      Due.found(x, "retype under " + where, 1, 22);
      Due.is("type(2, 1)", x.type(2, 1), 'n');
    }
    TableCatalog y = Due.two();
    Due.made(y, "view v = c : a.n + 1, e : 1, f : str(a.n) from a where a.n < 1;", 2);
    Due.made(y, "view w = c : 1 from a where 1 = a.n;", 3);
    Due.is("retype", y.retype(0, 0, 't'), -2);
    Due.found(y, "in order, the where behind its COLUMNS", 4, 16, 18, 22, 30);
  }

  private static void retypeRefusedByAllThereCanBe() {
    Due.by("13: -2: FOUND are the COLUMNS (all that there can be)");
    TableCatalog x = new TableCatalog();
    Due.made(x, "table a (x n);", 0);
    int[] all = new int[105];
    for (int t = 1; t < 16; t++) {
      Due.made(x, "copy " + (char) ('a' + t)
          + " = p:a.x+1,q:a.x-1,r:str(a.x),s:1+a.x,t:a.x-a.x,u:2-a.x from a where a.x<a.x+1;", t);
      for (int c = 0; c < 7; c++) {
        all[(t - 1) * 7 + c] = 8 * t + c;
      }
    }
    Due.is("retype", x.retype(0, 0, 't'), -2);
    Due.found(x, "retype", 105, all);
    Due.is("type(15, 5)", x.type(15, 5), 'n');
  }

  private static void retypeLooksWithTheTypesAhead() {
    Due.by("13: (looked at with the TYPES of those ahead");
    TableCatalog x = Due.two();
    Due.made(x, "view v = c : a.n from a;", 2);
    Due.made(x, "view w = c : v.c from v;", 3);
    Due.made(x, "view u = c : w.c + 1, e : w.c from w, v where w.c < 7;", 4);
    Due.is("retype(0, 0, t)", x.retype(0, 0, 't'), -2);
    Due.found(x, "retype(0, 0, t)", 2, 32, 38);
    // those of another TYPE together are one that can be
    TableCatalog y = Due.two();
    Due.made(y, "view v = c : a.n from a;", 2);
    Due.made(y, "view w = c : v.c - a.n from v, a where v.c = a.n;", 3);
    Due.is("retype(0, 0, d)", y.retype(0, 0, 'd'), 1);
    Due.is("type(3, 0)", y.type(3, 0), 'n');
  }

  private static void retypeKeepsWhatCannotBe() {
    Due.by("13: what can't be has the TYPE it had)");
    TableCatalog x = Due.two();
    Due.made(x, "view v = c : a.n + 1, e : a.n from a;", 2);
    Due.made(x, "view w = c : v.c + 1, e : v.e - 1, f : 1 from v where v.c < 5;", 3);
    Due.made(x, "view u = c : w.c + w.e from w where w.e < 2;", 4);
    Due.is("retype(0, 0, t)", x.retype(0, 0, 't'), -2);
    Due.found(x, "retype(0, 0, t)", 2, 16, 25);
    TableCatalog y = Due.two();
    Due.made(y, "copy v = c : a.t & 'x', e : len(a.t) from a;", 2);
    Due.made(y, "view w = c : len(v.c), e : v.e + 1 from v where v.c = '';", 3);
    Due.is("retype(0, 1, n)", y.retype(0, 1, 'n'), -2);
    Due.found(y, "retype(0, 1, n)", 2, 16, 17);
  }

  private static void retypeRefusedChangesNothing() {
    Due.by("13: -2 it can't be");
    TableCatalog x = Due.two();
    Due.made(x, "view v = c : a.n, e : a.n + 1 from a;", 2);
    Due.made(x, "view w = c : v.c, e : str(v.e) from v where v.c = v.e;", 3);
    Due.is("retype(0, 0, t)", x.retype(0, 0, 't'), -2);
    Due.found(x, "retype(0, 0, t)", 2, 17, 30);
    for (int t = 0; t < 4; t++) {
      for (int c = 0; c < x.table(t, 1); c++) {
        Due.is("type(" + t + ", " + c + ")", x.type(t, c), new String[] {"ntd", "ntd", "nn", "nt"}[t].charAt(c));
      }
    }
    Due.is("retype(0, 0, d)", x.retype(0, 0, 'd'), -2);
    Due.found(x, "retype(0, 0, d)", 1, 25);
    Due.is("type(0, 0)", x.type(0, 0), 'n');
    Due.is("type(2, 0)", x.type(2, 0), 'n');
    x.drop(3);
    Due.is("retype(0, 0, d)", x.retype(0, 0, 'd'), 2);
  }

  private static void retypePassesGoneAndFrozenOnes() {
    Due.by("13: those that come FROM it (a gone one and a FROZEN one do not)");
    TableCatalog x = Due.two();
    Due.made(x, "view v = c : a.n + 1, e : a.n from a where a.n < 1;", 2);
    Due.made(x, "copy w = c : str(a.n), e : a.n from a where a.n < 1;", 3);
    Due.made(x, "view u = c : w.e + 1 from w;", 4);
    x.drop(2);
    Due.is("retype(0, 0, t)", x.retype(0, 0, 't'), -2);
    Due.found(x, "retype(0, 0, t)", 3, 24, 30, 32);
    x.freeze(3);
    Due.is("retype(0, 0, t)", x.retype(0, 0, 't'), 0);
    Due.is("type(3, 1)", x.type(3, 1), 'n');
    Due.is("type(4, 0)", x.type(4, 0), 'n');
  }

  // ---- 14

  private static void dropWithItsAsks() {
    Due.by("14: A TABLE goes, with its ASKS: how many ASKS");
    TableCatalog x = Due.two();
    Due.made(x, "view v = c : 1 from a;", 2);
    Due.made(x, "copy w = c : 1 from a;", 3);
    Due.made(x, "copy u = c : 1 from a;", 4);
    x.freeze(4);
    for (int i = 0; i < 38; i++) {
      Due.is("ask", x.ask(0, 1, 1), i);
    }
    x.ask(0, 2, 1);
    x.ask(0, 0, 1);
    Due.is("drop(4), FROZEN, no ASKS", x.drop(4), 0);
    Due.is("drop(3), a COPY, no ASKS", x.drop(3), 0);
    Due.is("drop(2), a VIEW, one ASK", x.drop(2), 1);
    Due.is("drop(1), a SOURCE, 38 ASKS", x.drop(1), 38);
    Due.found(x, "asked(0, 0), another's stay", x.asked(0, 0), 39);
    Due.is("drop(0)", x.drop(0), 1);
    TableCatalog y = Due.two();
    for (int i = 0; i < 40; i++) {
      y.ask(i % 10, 0, 7);
    }
    Due.is("drop(0), all the ASKS", y.drop(0), 40);
  }

  private static void dropOfNoneSuch() {
    Due.by("14: -1 no such TABLE");
    TableCatalog x = Due.two();
    for (int t : NO_TABLES) {
      Due.is("drop(" + t + ")", x.drop(t), -1);
    }
    Due.is("drop(2), not yet", x.drop(2), -1);
    Due.is("drop(0)", x.drop(0), 0);
    Due.is("drop(0), gone", x.drop(0), -1);
    Due.is("table(1, 0) stays", x.table(1, 0), 0);
  }

  private static void dropOfOneBehindAnother() {
    Due.by("14: -2 one has it behind its from");
    TableCatalog x = Due.two();
    Due.made(x, "table e (x n);", 2);
    Due.made(x, "table f (x n);", 3);
    // though no FORMULA uses them
    Due.made(x, "view v = c : 1 from b, e, a;", 4);
    Due.made(x, "copy w = c : 1 from v;", 5);
    for (int t : new int[] {0, 1, 2, 4}) {
      Due.is("drop(" + t + ")", x.drop(t), -2);
    }
    Due.is("drop(3), behind none", x.drop(3), 0);
    x.freeze(5);
    Due.is("drop(4), a FROZEN one has none behind", x.drop(4), 0);
    Due.is("drop(2), a gone one has none behind", x.drop(2), 0);
    Due.is("drop(0)", x.drop(0), 0);
    Due.is("drop(1)", x.drop(1), 0);
    Due.is("drop(5)", x.drop(5), 0);
    TableCatalog y = deep();
    for (int t = 0; t < 15; t++) {
      Due.is("drop(" + t + ")", y.drop(t), -2);
    }
    for (int t = 15; t >= 0; t--) {
      Due.is("drop(" + t + ")", y.drop(t), 0);
    }
  }

  private static void dropRefusedChangesNothing() {
    Due.by("14: -2");
    TableCatalog x = Due.two();
    Due.made(x, "view v = c : a.n from a;", 2);
    x.ask(0, 0, 1);
    x.fed(0, 0, 0);
    x.own(0, 3);
    x.promise(0, 4);
    Due.is("drop(0)", x.drop(0), -2);
    Due.is("table(0, 0)", x.table(0, 0), 0);
    Due.is("table(0, 7)", x.table(0, 7), 0);
    Due.is("table(0, 8)", x.table(0, 8), 3);
    Due.is("table(0, 9)", x.table(0, 9), 4);
    Due.found(x, "asked(0, 0)", x.asked(0, 0), 0);
    Due.is("named a", Due.named(x, "a"), 0);
  }

  private static void droppedKeepsItsNumber() {
    Due.by("14: (Its number stays its own; a new TABLE has the next one)");
    TableCatalog x = new TableCatalog();
    for (int t = 0; t < 16; t++) {
      Due.made(x, "table a (x n);", t);
      Due.is("drop", x.drop(t), 0);
      Due.is("table(t, 0)", x.table(t, 0), -1);
    }
    Due.bad(x, 5, "^table a (x n);");
    TableCatalog y = Due.two();
    y.drop(0);
    Due.made(y, "table e (x t);", 2);
    Due.is("table(0, 0), still none", y.table(0, 0), -1);
    Due.is("type(0, 0), still none", y.type(0, 0), -1);
    Due.is("ask(0, 0, 1), still none", y.ask(0, 0, 1), -1);
    Due.is("type(1, 0)", y.type(1, 0), 'n');
    Due.is("type(2, 0)", y.type(2, 0), 't');
    y.drop(2);
    Due.made(y, "table e (x t);", 3);
    Due.found(y, "unused", y.unused(0), 1, 3);
  }

  private static void droppedNameIsFree() {
    Due.by("14: its NAME is free");
    TableCatalog x = Due.two();
    Due.bad(x, 4, "table ^a (y n);");
    x.drop(0);
    Due.is("named a", Due.named(x, "a"), -2);
    Due.bad(x, 2, "view v = c : 1 from ^a;");
    Due.made(x, "view a = y : b.t from b;", 2);
    Due.is("named a", Due.named(x, "a"), 2);
    Due.bad(x, 4, "table ^a (y n);");
    Due.made(x, "view v = c : a.y from a;", 3);
    Due.found(x, "from(3, 0, 1)", x.from(3, 0, 1), 9, 16);
    Due.bad(x, 2, "view w = c : a.^n from a;");
  }

  // ---- 15

  private static void freezeACopy() {
    Due.by("15: A COPY is FROZEN: true");
    TableCatalog x = Due.two();
    Due.made(x, "copy w = c : a.n, e : a.t from a where a.d = a.d;", 2);
    Due.made(x, "copy u = c : w.c from w;", 3);
    x.ask(0, 2, 3);
    x.own(2, 5);
    x.promise(2, 6);
    Due.is("freeze(2), not run", x.freeze(2), true);
    int[] due = {3, 2, 0, -1, -1, -1, -1, -1, 5, 6};
    for (int what = 0; what < 10; what++) {
      Due.is("table(2, " + what + ")", x.table(2, what), due[what]);
    }
    Due.found(x, "asked(2, 0), its ASKS stay", x.asked(2, 0), 0);
    Due.is("named w", Due.named(x, "w"), 2);
    Due.made(x, "view z = c : w.e from w;", 4);
    Due.is("type(4, 0)", x.type(4, 0), 't');
    Due.is("freeze(3), over a FROZEN one", x.freeze(3), true);
  }

  private static void freezeOfNoneSuch() {
    Due.by("15: false when there is none such");
    TableCatalog x = Due.two();
    Due.made(x, "view v = c : a.n from a;", 2);
    Due.made(x, "copy w = c : a.n from a;", 3);
    for (int t : NO_TABLES) {
      Due.is("freeze(" + t + ")", x.freeze(t), false);
    }
    Due.is("freeze(4), not yet", x.freeze(4), false);
    Due.is("freeze(0), a SOURCE", x.freeze(0), false);
    Due.is("freeze(2), a VIEW", x.freeze(2), false);
    Due.is("table(0, 0)", x.table(0, 0), 0);
    Due.is("table(2, 0)", x.table(2, 0), 1);
    Due.found(x, "from(2, 0, 0)", x.from(2, 0, 0), 0);
    x.drop(3);
    Due.is("freeze(3), gone", x.freeze(3), false);
    Due.is("table(3, 0)", x.table(3, 0), -1);
  }

  private static void freezeTwice() {
    Due.by("15: A COPY is FROZEN (one that is FROZEN is a COPY no more)");
    TableCatalog x = Due.two();
    Due.made(x, "copy w = c : a.n from a;", 2);
    Due.is("freeze(2)", x.freeze(2), true);
    Due.is("freeze(2) again", x.freeze(2), false);
    Due.is("table(2, 0)", x.table(2, 0), 3);
  }
}
