/** Promises 1 to 8: a test of its own for each sentence that names an edge. */
public final class EdgesOfCallsTest {
  private static final int MIN = Integer.MIN_VALUE;
  private static final int MAX = Integer.MAX_VALUE;
  // 1 << 29 is the table 0 again, if it is taken times eight without a look
  private static final int[] NO_TABLES = {-1, -2, -16, 15, 16, 17, 32, 256, 1 << 29, MIN, MAX};
  private static final int[] NO_WHAT = {-1, -2, 10, 11, 32, 256, MIN, MAX};

  public static void main(String[] args) {
    aNewOneHasNoTables();
    aNewOneHasNothingElse();
    newOnesAreApart();
    twentyBytesComeHighestFirst();
    allBytesAreTaken();
    bytesComeBehindThoseOnTheTape();
    feedTellsHowManyThereAre();
    feedRefusesMoreThanFourHundred();
    endLeavesTheFirstAlone();
    endRefusesMoreThanThereAre();
    endRefusesBelowZero();
    endOfNothingAndOfAll();
    actOfNothing();
    actTakesTheWholeTape();
    theTapeGoesWithATable();
    theTapeGoesWithAFault();
    aNewTableHasTheNextNumber();
    aRefusedOneLeavesNothing();
    faultAheadOfAny();
    faultOfTheLatestAct();
    faultWithout();
    faultAtThePlaceZero();
    faultOfAnotherWhat();
    faultStaysOverOtherCalls();
    namedTakesTheTape();
    namedWithBlanksAround();
    namedOfNone();
    namedOfNoName();
    namedWithBlanksInside();
    tableTellsWhatItIs();
    tableTellsItsColumns();
    tableTellsThoseBehind();
    tableTellsItsAge();
    tableTellsOwnerAndLag();
    tableOfNoneSuch();
    tableOfAnotherWhat();
    typeIsALetter();
    typeOfNoneSuch();
    noneIsMinusOne();
    theLastCallHoldsAsWell();
    Due.close();
  }

  // ---- 1

  private static void aNewOneHasNoTables() {
    Due.by("1: No TABLES");
    for (int t = 0; t < 16; t++) {
      TableCatalog x = new TableCatalog();
      for (int what = 0; what < 10; what++) {
        Due.is("table", x.table(t, what), -1);
      }
      Due.is("type", x.type(t, 0), -1);
      Due.is("from", x.from(t, 0, 0), -1);
      Due.is("touch", x.touch(t, 0), -1);
      Due.is("asked", x.asked(t, 0), -1);
      Due.is("retype", x.retype(t, 0, 'n'), -1);
      Due.is("drop", x.drop(t), -1);
      Due.is("freeze", x.freeze(t), false);
      Due.is("fed", x.fed(t, 0, 0), false);
      Due.is("run", x.run(t), false);
      Due.is("promise", x.promise(t, 0), false);
      Due.is("promise of none", x.promise(t, -1), false);
      Due.is("late", x.late(t), -1);
      Due.is("own", x.own(t, 0), false);
      Due.is("own by nobody", x.own(t, -1), false);
      Due.is("ask", x.ask(0, t, 1), -1);
      Due.is("alike", x.alike(t, (t + 1) % 16), -1);
      Due.found(x, "broken", x.broken());
      Due.found(x, "unused", x.unused(0));
      Due.is("named", Due.named(x, "" + (char) ('a' + t)), -2);
      Due.made(x, "table a (x n);", 0);
    }
  }

  private static void aNewOneHasNothingElse() {
    Due.by("1: No TABLES (no tape, no FAULT, nothing FOUND)");
    TableCatalog x = new TableCatalog();
    Due.is("found(0)", x.found(0), -1);
    Due.is("fault(0)", x.fault(0), 0);
    Due.is("fault(1)", x.fault(1), -1);
    Due.is("end(1)", x.end(1), false);
    Due.is("end(0)", x.end(0), true);
    Due.is("feed", Due.feed(x, ""), 20);
  }

  private static void newOnesAreApart() {
    Due.by("1: No TABLES, whatever another object has");
    TableCatalog x = Due.two();
    x.today(5);
    x.ask(0, 0, 1);
    Due.is("act", Due.act(x, "?"), -1);
    Due.put(x, "table e (x n);");
    x.unused(0);
    TableCatalog y = new TableCatalog();
    Due.is("table(0, 0)", y.table(0, 0), -1);
    Due.is("fault(0)", y.fault(0), 0);
    Due.is("found(0)", y.found(0), -1);
    Due.is("end(1)", y.end(1), false);
    Due.made(y, "table a (x n);", 0);
    Due.is("today(0)", y.today(0), true);
    Due.is("ask", y.ask(0, 0, 1), 0);
    Due.is("found(0) of the other", x.found(0), 1);
    Due.is("fault(0) of the other", x.fault(0), 1);
    Due.is("act of the other", x.act(), 2);
  }

  // ---- 2

  private static String blanks(int count) {
    return " ".repeat(count);
  }

  private static void twentyBytesComeHighestFirst() {
    Due.by("2: Twenty bytes, of each number the highest first");
    for (int place = 0; place < 20; place++) {
      TableCatalog x = new TableCatalog();
      Due.feed(x, blanks(place) + "?");
      Due.is("act", x.act(), -1);
      Due.is("fault(1) of ? at " + place, x.fault(1), place);
    }
    TableCatalog y = new TableCatalog();
    // "tabl" "e ab" "cd (" "x n)" ";   "
    Due.is("feed", y.feed(0x7461626c, 0x65206162, 0x63642028, 0x78206e29, 0x3b202020), 20);
    Due.is("act", y.act(), 0);
    Due.is("named abcd", Due.named(y, "abcd"), 0);
  }

  private static void allBytesAreTaken() {
    Due.by("2: Twenty bytes, whatever they are");
    for (int sign = 0; sign < 256; sign++) {
      TableCatalog x = new TableCatalog();
      Due.made(x, "table a (x n);", 0);
      int number = sign << 24 | sign << 16 | sign << 8 | sign;
      Due.is("feed of " + sign, x.feed(number, number, number, number, number), 20);
      Due.is("end(21)", x.end(21), false);
      Due.is("end(1)", x.end(1), true);
      boolean letter = sign >= 'a' && sign <= 'z';
      Due.is("named of the byte " + sign, x.named(), sign == 'a' ? 0 : letter ? -2 : -1);
    }
    TableCatalog y = new TableCatalog();
    Due.is("feed of -1", y.feed(-1, -1, -1, -1, -1), 20);
    Due.is("feed of MIN, MAX", y.feed(MIN, MAX, MIN, MAX, 0), 40);
  }

  private static void bytesComeBehindThoseOnTheTape() {
    Due.by("2: come behind those on the tape");
    TableCatalog x = new TableCatalog();
    Due.feed(x, "table abc");
    Due.is("end(7)", x.end(7), true);
    Due.is("feed", Due.feed(x, "zy (x n, y t, z d"), 27);
    Due.is("end(24)", x.end(24), true);
    Due.is("feed", Due.feed(x, ");"), 44);
    Due.is("act", x.act(), 0);
    Due.is("named azy", Due.named(x, "azy"), 0);
    Due.is("type(0, 2)", x.type(0, 2), 'd');
  }

  private static void feedTellsHowManyThereAre() {
    Due.by("2: how many there are");
    TableCatalog x = new TableCatalog();
    for (int many = 20; many <= 400; many += 20) {
      Due.is("feed", Due.feed(x, ""), many);
    }
    x.end(333);
    Due.is("feed", Due.feed(x, ""), 353);
    x.end(0);
    Due.is("feed", Due.feed(x, ""), 20);
    x.end(1);
    Due.is("feed", Due.feed(x, ""), 21);
    x.act();
    Due.is("feed", Due.feed(x, ""), 20);
    x.named();
    Due.is("feed", Due.feed(x, ""), 20);
  }

  private static void feedRefusesMoreThanFourHundred() {
    Due.by("2: NONE, doing nothing, if there would be more than 400");
    TableCatalog x = new TableCatalog();
    Due.put(x, "table a (x n)" + blanks(386) + ";");
    Due.is("feed behind 400", Due.feed(x, "?"), -1);
    Due.is("end(401)", x.end(401), false);
    Due.is("end(400)", x.end(400), true);
    Due.is("act, all as it was", x.act(), 0);
    for (int size = 381; size < 400; size++) {
      TableCatalog z = new TableCatalog();
      Due.put(z, blanks(400));
      z.end(size);
      Due.is("feed behind " + size, Due.feed(z, "?"), -1);
      Due.is("end of more", z.end(size + 1), false);
      Due.is("act of blanks", z.act(), -1);
      Due.is("fault(1)", z.fault(1), size);
    }
    TableCatalog y = new TableCatalog();
    Due.put(y, blanks(400));
    y.end(380);
    Due.is("feed behind 380", Due.feed(y, blanks(19) + "?"), 400);
    Due.is("act", y.act(), -1);
    Due.is("fault(1)", y.fault(1), 399);
  }

  // ---- 3

  private static void endLeavesTheFirstAlone() {
    Due.by("3: The tape has its first n bytes alone: true");
    String text = "table abcdefgh (x n);";
    for (int n = 6; n <= 14; n++) {
      TableCatalog x = new TableCatalog();
      Due.put(x, text + "?");
      Due.is("end(" + n + ")", x.end(n), true);
      Due.is("end(n + 1)", x.end(n + 1), false);
      Due.is("act", x.act(), -1);
      Due.is("fault(1), all that is left", x.fault(1), n);
    }
    TableCatalog y = new TableCatalog();
    Due.put(y, text + "?");
    Due.is("end(21)", y.end(21), true);
    Due.is("act", y.act(), 0);
    // bytes that are cut do not come back
    Due.put(y, "table qrs (x n);");
    Due.is("end(7)", y.end(7), true);
    Due.is("end(8)", y.end(8), false);
    Due.is("feed", Due.feed(y, "(x n);"), 27);
    Due.is("act", y.act(), 1);
    Due.is("named q", Due.named(y, "q"), 1);
  }

  private static void endRefusesMoreThanThereAre() {
    Due.by("3: false, doing nothing, if it has not so many");
    TableCatalog x = new TableCatalog();
    Due.is("end(1) of none", x.end(1), false);
    Due.put(x, "table a (x n);");
    for (int n : new int[] {15, 16, 20, 400, 401, 1 << 16, MAX}) {
      Due.is("end(" + n + ") of 14", x.end(n), false);
    }
    Due.is("end(14)", x.end(14), true);
    Due.is("act, all as it was", x.act(), 0);
    Due.is("end(1) behind an act", x.end(1), false);
    Due.put(x, "a");
    Due.is("named", x.named(), 0);
    Due.is("end(1) behind named", x.end(1), false);
  }

  private static void endRefusesBelowZero() {
    Due.by("3: false, doing nothing, if n is below 0");
    TableCatalog x = new TableCatalog();
    Due.is("end(-1) of none", x.end(-1), false);
    Due.put(x, "table a (x n);");
    for (int n : new int[] {-1, -2, -14, -400, MIN}) {
      Due.is("end(" + n + ") of 14", x.end(n), false);
    }
    Due.is("end(14)", x.end(14), true);
    Due.is("act, all as it was", x.act(), 0);
  }

  private static void endOfNothingAndOfAll() {
    Due.by("3: its first n bytes: none, all of them");
    TableCatalog x = new TableCatalog();
    Due.is("end(0) of none", x.end(0), true);
    Due.put(x, "table a (x n);");
    Due.is("end(14), all", x.end(14), true);
    Due.is("end(14), all again", x.end(14), true);
    Due.is("end(0)", x.end(0), true);
    Due.is("end(0) again", x.end(0), true);
    Due.is("act of none", x.act(), -1);
    Due.is("fault(1)", x.fault(1), 0);
    Due.put(x, blanks(400));
    Due.is("end(400), full", x.end(400), true);
  }

  // ---- 4

  private static void actOfNothing() {
    Due.by("4: The tape is a STATEMENT; NONE with a FAULT (an empty one)");
    TableCatalog x = new TableCatalog();
    Due.is("act", x.act(), -1);
    Due.is("fault(0)", x.fault(0), 1);
    Due.is("fault(1)", x.fault(1), 0);
    Due.made(x, "table a (x n);", 0);
    Due.is("act", x.act(), -1);
    Due.is("fault(0)", x.fault(0), 1);
    Due.is("fault(1)", x.fault(1), 0);
  }

  private static void actTakesTheWholeTape() {
    Due.by("4: The tape is a STATEMENT (a full one)");
    TableCatalog x = new TableCatalog();
    Due.made(x, "table a (x n)" + blanks(386) + ";", 0);
    Due.bad(x, 1, "table b (x n)" + blanks(387) + "^");
    Due.bad(x, 1, "table b (x n);" + blanks(385) + "^?");
    Due.made(x, "view v = c : 1 from a where '" + "q".repeat(363) + "' = '';", 1);
    Due.bad(x, 1, "view w = c : 1 from a where '" + "q".repeat(371) + "^");
    Due.bad(x, 1, "table abcdefgh^" + "z".repeat(386));
    Due.bad(x, 1, "view w = c : 1234^" + "5".repeat(383));
    Due.is("table(2, 0)", x.table(2, 0), -1);
  }

  private static void theTapeGoesWithATable() {
    Due.by("4: The tape (it goes): the new TABLE");
    TableCatalog x = new TableCatalog();
    Due.made(x, "table a (x n);", 0);
    Due.is("end(1)", x.end(1), false);
    Due.is("act again", x.act(), -1);
    Due.is("fault(0)", x.fault(0), 1);
    Due.is("fault(1)", x.fault(1), 0);
    Due.is("feed", Due.feed(x, "table b (x n);"), 20);
    Due.is("act", x.act(), 1);
  }

  private static void theTapeGoesWithAFault() {
    Due.by("4: The tape (it goes): NONE with a FAULT");
    String[] texts = {"table e (x n)", "view v = c : q.n from a;", "view v = c : 1 + 'x' from a;", "table a (x n);"};
    for (int fault = 1; fault <= 4; fault++) {
      TableCatalog x = Due.two();
      Due.is("act", Due.act(x, texts[fault - 1]), -1);
      Due.is("fault(0)", x.fault(0), fault);
      Due.is("end(1)", x.end(1), false);
      Due.is("feed", Due.feed(x, "table q (x n);"), 20);
      Due.is("act", x.act(), 2);
    }
    TableCatalog y = new TableCatalog();
    for (int t = 0; t < 16; t++) {
      Due.made(y, "table " + (char) ('a' + t) + " (x n);", t);
    }
    Due.bad(y, 5, "^table q (x n);");
    Due.is("end(1)", y.end(1), false);
    Due.is("named", Due.named(y, "q"), -2);
  }

  private static void aNewTableHasTheNextNumber() {
    Due.by("4: the new TABLE");
    TableCatalog x = new TableCatalog();
    for (int t = 0; t < 16; t++) {
      Due.bad(x, 1, "table ^;");
      Due.made(x, "table " + (char) ('a' + t) + " (x n);", t);
      Due.is("table(t, 0)", x.table(t, 0), 0);
    }
    Due.bad(x, 5, "^table q (x n);");
    Due.is("table(16, 0)", x.table(16, 0), -1);
  }

  private static void aRefusedOneLeavesNothing() {
    Due.by("4: NONE with a FAULT");
    TableCatalog x = Due.two();
    x.fed(0, 0, 0);
    x.fed(1, 0, 0);
    Due.bad(x, 1, "view v = c : a.n, e : b.n from a, b where a.d < b.d^");
    Due.bad(x, 2, "view v = c : a.n, e : ^q.n from a, b where a.d < b.d;");
    Due.bad(x, 2, "view v = c : a.n, e : 'x' from a, b, ^q;");
    Due.bad(x, 3, "view v = c : a.n, e : b.n from a, b where a.d ^< b.t;");
    Due.bad(x, 4, "view v = c : a.n, ^c : b.n from a, b where a.d < b.d;");
    Due.is("named v", Due.named(x, "v"), -2);
    Due.found(x, "touch(0, 0)", x.touch(0, 0));
    Due.found(x, "touch(0, 2)", x.touch(0, 2));
    Due.is("type(2, 0)", x.type(2, 0), -1);
    Due.is("retype(0, 2, t)", x.retype(0, 2, 't'), 0);
    Due.made(x, "table v (x d);", 2);
    Due.is("table(2, 1)", x.table(2, 1), 1);
    Due.is("table(2, 2)", x.table(2, 2), 0);
    Due.is("table(2, 6)", x.table(2, 6), -1);
    Due.found(x, "from(2, 0, 0)", x.from(2, 0, 0));
    Due.is("drop(0)", x.drop(0), 0);
  }

  // ---- 5

  private static void faultAheadOfAny() {
    Due.by("5: its FAULT (0; 0 ahead of any), its place (1; NONE without)");
    TableCatalog x = new TableCatalog();
    Due.is("fault(0)", x.fault(0), 0);
    Due.is("fault(1)", x.fault(1), -1);
    // neither feed nor end nor named is an act()
    Due.put(x, "?");
    Due.is("named", x.named(), -1);
    Due.is("fault(0)", x.fault(0), 0);
    Due.is("fault(1)", x.fault(1), -1);
  }

  private static void faultOfTheLatestAct() {
    Due.by("5: Of the latest act()");
    TableCatalog x = Due.two();
    Due.bad(x, 1, "table q (x n)^");
    Due.bad(x, 2, "view v = c : a.^q from a;");
    Due.bad(x, 3, "view v = c : 1 ^+ 'x' from a;");
    Due.bad(x, 4, "table ^a (x n);");
    Due.bad(x, 1, "^");
    // a place within a NAME, digits or a text tells nothing of the next
    for (String within : new String[] {"table abcdefgh^i", "view v = c : 1234^5", "view v = c : 'qrst^?"}) {
      Due.bad(x, 1, within);
      Due.bad(x, 1, "^?");
      Due.bad(x, 1, within);
      Due.bad(x, 4, "table ^a (x n);");
    }
    for (int t = 2; t < 16; t++) {
      Due.made(x, "table " + (char) ('a' + t) + " (x n);", t);
    }
    Due.bad(x, 5, "^table q (x n);");
    Due.bad(x, 3, "view v = c : 1 ^+ 'x' from a;");
    Due.bad(x, 5, "^table q (x n);");
  }

  private static void faultWithout() {
    Due.by("5: its FAULT (0 without), its place (NONE without)");
    TableCatalog x = Due.two();
    for (int t = 2; t < 6; t++) {
      Due.bad(x, 4, "table ^a (x n);");
      Due.made(x, "table " + (char) ('a' + t) + " (x n);", t);
      Due.is("fault(0)", x.fault(0), 0);
      Due.is("fault(1)", x.fault(1), -1);
    }
  }

  private static void faultAtThePlaceZero() {
    Due.by("5: its place (the first one)");
    TableCatalog x = new TableCatalog();
    Due.bad(x, 1, "^?");
    Due.is("fault(1)", x.fault(1), 0);
    Due.bad(x, 1, " ^?");
    Due.bad(x, 1, blanks(399) + "^?");
    Due.is("fault(1)", x.fault(1), 399);
  }

  private static void faultOfAnotherWhat() {
    Due.by("5: NONE for another what");
    TableCatalog x = new TableCatalog();
    for (int round = 0; round < 3; round++) {
      for (int what : new int[] {-1, -2, 2, 3, 256, 257, MIN, MAX}) {
        Due.is("fault(" + what + ")", x.fault(what), -1);
      }
      if (round == 0) {
        Due.bad(x, 1, "table ^?");
      } else if (round == 1) {
        Due.made(x, "table a (x n);", 0);
      }
    }
  }

  private static void faultStaysOverOtherCalls() {
    Due.by("5: Of the latest act(): whatever else was called since");
    TableCatalog x = Due.two();
    Due.bad(x, 4, "table ^b (x n);");
    Due.is("named", Due.named(x, "?"), -1);
    Due.is("named", Due.named(x, "b"), 1);
    Due.is("retype", x.retype(0, 0, 'q'), -1);
    Due.is("drop", x.drop(9), -1);
    Due.is("end", x.end(-1), false);
    Due.is("fed", x.fed(0, 1, 1), false);
    Due.is("table", x.table(9, 9), -1);
    Due.is("fault(2)", x.fault(2), -1);
    Due.is("fault(0)", x.fault(0), 4);
    Due.is("fault(1)", x.fault(1), 6);
    Due.made(x, "view v = c : a.n + 1 from a;", 2);
    Due.is("retype", x.retype(0, 0, 't'), -2);
    Due.is("named", Due.named(x, "?"), -1);
    Due.is("fault(0)", x.fault(0), 0);
    Due.is("fault(1)", x.fault(1), -1);
  }

  // ---- 6

  private static void namedTakesTheTape() {
    Due.by("6: The tape (it goes)");
    TableCatalog x = Due.two();
    for (String text : new String[] {"a", "q", "?", "table e (x n);"}) {
      Due.put(x, text);
      x.named();
      Due.is("end(1) behind named of " + text, x.end(1), false);
      Due.is("named of what is left", x.named(), -1);
      Due.is("feed", Due.feed(x, "b"), 20);
      Due.is("named", x.named(), 1);
    }
    Due.is("table(2, 0), none was made", x.table(2, 0), -1);
  }

  private static void namedWithBlanksAround() {
    Due.by("6: is a NAME, perhaps with blanks around it: its TABLE");
    TableCatalog x = Due.two();
    Due.made(x, "table abcdefgh (x n);", 2);
    String[] heads = {"", " ", "\n", " \n ", "\n\n", blanks(300)};
    for (String head : heads) {
      for (String tail : heads) {
        if (head.length() + tail.length() < 390) {
          TableCatalog y = Due.two();
          Due.is("named", Due.named(y, head + "b" + tail), 1);
          Due.is("named", Due.named(y, head + "q" + tail), -2);
        }
      }
    }
    Due.is("named, the last byte of a full tape", Due.named(x, blanks(392) + "abcdefgh"), 2);
    Due.is("named, the first byte of a full tape", Due.named(x, "a" + blanks(399)), 0);
    for (String blank : new String[] {"\t", "\r", "\0", "\13", "" + (char) 160}) {
      Due.is("named with no blank ahead", Due.named(x, blank + "a"), -1);
      Due.is("named with no blank behind", Due.named(x, "a" + blank), -1);
    }
  }

  private static void namedOfNone() {
    Due.by("6: -2 there is none");
    TableCatalog x = new TableCatalog();
    Due.is("named without any", Due.named(x, "a"), -2);
    Due.made(x, "table a (x n, y n);", 0);
    Due.made(x, "view ab = c : a.x from a;", 1);
    // neither a COLUMN's NAME nor a part of one
    for (String name : new String[] {"x", "y", "c", "b", "abc", "aa", "zzzzzzzz"}) {
      Due.is("named " + name, Due.named(x, name), -2);
    }
    Due.is("drop(1)", x.drop(1), 0);
    Due.is("named of a gone one", Due.named(x, "ab"), -2);
    Due.made(x, "table ab (x n);", 2);
    Due.is("named of the new one", Due.named(x, "ab"), 2);
  }

  private static void namedOfNoName() {
    Due.by("6: NONE: it is no NAME");
    TableCatalog x = Due.two();
    String[] texts = {"", " ", "\n \n", "abcdefghi", "view", "copy", "table", "from", "where", "len", "str", " view ", "A",
      "1", "12", "a1", "1a", "a.", "a.n", "a;", "'a'", "'", "a'", "a,", "(a)", "_", "a_", "" + (char) 225, "a" + (char) 225,
      blanks(400), "a".repeat(400)};
    for (String text : texts) {
      Due.is("named of '" + text + "'", Due.named(x, text), -1);
    }
    Due.is("named, eight letters", Due.named(x, "abcdefgh"), -2);
    Due.is("named, nearly a word", Due.named(x, "views"), -2);
    Due.is("named", Due.named(x, "b"), 1);
  }

  private static void namedWithBlanksInside() {
    Due.by("6: a NAME, blanks around it alone");
    TableCatalog x = Due.two();
    Due.made(x, "table ab (x n);", 2);
    Due.is("named 'a b'", Due.named(x, "a b"), -1);
    Due.is("named 'a a'", Due.named(x, "a\na"), -1);
    Due.is("named 'ab a'", Due.named(x, "ab" + blanks(300) + "a"), -1);
    Due.is("named 'ab'", Due.named(x, "ab"), 2);
  }

  // ---- 7

  private static TableCatalog kinds() {
    TableCatalog x = Due.two();
    Due.made(x, "table e (p n, q n, r n, s n, u n, w n);", 2);
    Due.made(x, "view v = c : 1 from e, a, b;", 3);
    Due.made(x, "copy w = p:1, q:2, r:3, s:4, t:5, u:6 from v, e;", 4);
    Due.made(x, "copy z = c : 1 from w;", 5);
    return x;
  }

  private static void rowOf(TableCatalog x, int what, int... want) {
    for (int t = 0; t < want.length; t++) {
      Due.is("table(" + t + ", " + what + ")", x.table(t, what), want[t]);
    }
  }

  private static void tableTellsWhatItIs() {
    Due.by("7: 0 what it is (0 SOURCE, 1 VIEW, 2 COPY, 3 FROZEN)");
    TableCatalog x = kinds();
    rowOf(x, 0, 0, 0, 0, 1, 2, 2, -1);
    x.freeze(5);
    rowOf(x, 0, 0, 0, 0, 1, 2, 3, -1);
    x.drop(5);
    rowOf(x, 0, 0, 0, 0, 1, 2, -1, -1);
  }

  private static void tableTellsItsColumns() {
    Due.by("7: 1 COLUMNS");
    TableCatalog x = kinds();
    rowOf(x, 1, 3, 3, 6, 1, 6, 1, -1);
    x.freeze(4);
    rowOf(x, 1, 3, 3, 6, 1, 6, 1, -1);
  }

  private static void tableTellsThoseBehind() {
    Due.by("7: 2 TABLES behind its from, 3 to 5 these (each NONE without)");
    TableCatalog x = kinds();
    rowOf(x, 2, 0, 0, 0, 3, 2, 1, -1);
    rowOf(x, 3, -1, -1, -1, 2, 3, 4, -1);
    rowOf(x, 4, -1, -1, -1, 0, 2, -1, -1);
    rowOf(x, 5, -1, -1, -1, 1, -1, -1, -1);
    x.freeze(4);
    rowOf(x, 2, 0, 0, 0, 3, 0, 1, -1);
    rowOf(x, 3, -1, -1, -1, 2, -1, 4, -1);
    rowOf(x, 4, -1, -1, -1, 0, -1, -1, -1);
  }

  private static void tableTellsItsAge() {
    Due.by("7: 6 oldest, 7 newest day of its AGE (each NONE without)");
    TableCatalog x = kinds();
    rowOf(x, 6, -1, -1, -1, -1, -1, -1, -1);
    rowOf(x, 7, -1, -1, -1, -1, -1, -1, -1);
    x.today(7);
    x.fed(1, 0, 7);
    rowOf(x, 6, -1, 0, -1, -1, -1, -1, -1);
    rowOf(x, 7, -1, 7, -1, -1, -1, -1, -1);
    x.fed(0, 0, 0);
    x.fed(1, 0, 0);
    x.fed(2, 0, 0);
    rowOf(x, 6, 0, 0, 0, 0, -1, -1, -1);
    rowOf(x, 7, 0, 0, 0, 0, -1, -1, -1);
  }

  private static void tableTellsOwnerAndLag() {
    Due.by("7: 8 OWNER, 9 LAG of its PROMISE (each NONE without)");
    TableCatalog x = kinds();
    rowOf(x, 8, -1, -1, -1, -1, -1, -1, -1);
    rowOf(x, 9, -1, -1, -1, -1, -1, -1, -1);
    x.own(2, 0);
    x.promise(2, 0);
    rowOf(x, 8, -1, -1, 0, 0, 0, 0, -1);
    rowOf(x, 9, -1, -1, 0, -1, -1, -1, -1);
    x.own(2, -1);
    x.promise(2, -1);
    rowOf(x, 8, -1, -1, -1, -1, -1, -1, -1);
    rowOf(x, 9, -1, -1, -1, -1, -1, -1, -1);
    x.own(2, 9);
    x.promise(2, 1000);
    rowOf(x, 8, -1, -1, 9, 9, 9, 9, -1);
    rowOf(x, 9, -1, -1, 1000, -1, -1, -1, -1);
  }

  private static void tableOfNoneSuch() {
    Due.by("7: NONE when there is none such");
    for (int what = 0; what < 10; what++) {
      TableCatalog x = kinds();
      x.own(0, 1);
      x.promise(0, 1);
      x.fed(0, 0, 0);
      for (int t : NO_TABLES) {
        Due.is("table(" + t + ", " + what + ")", x.table(t, what), -1);
      }
      Due.is("table(6, what), not yet", x.table(6, what), -1);
      x.own(5, 1);
      x.promise(5, 1);
      x.drop(5);
      Due.is("table(5, what), gone", x.table(5, what), -1);
    }
  }

  private static void tableOfAnotherWhat() {
    Due.by("7: NONE for others");
    TableCatalog x = kinds();
    for (int t = 0; t < 6; t++) {
      for (int what : NO_WHAT) {
        Due.is("table(" + t + ", " + what + ")", x.table(t, what), -1);
      }
    }
  }

  // ---- 8

  private static void typeIsALetter() {
    Due.by("8: TYPE of a COLUMN, as its letter");
    TableCatalog x = new TableCatalog();
    Due.made(x, "table a (p n, q t, r d, s d, t t, u n);", 0);
    Due.made(x, "view v = p : a.q, q : a.r - a.s, r : a.r - 1, s : 0, t : '', u : str(1) from a;", 1);
    for (int c = 0; c < 6; c++) {
      Due.is("type(0, " + c + ")", x.type(0, c), "ntddtn".charAt(c));
      Due.is("type(1, " + c + ")", x.type(1, c), "tndntt".charAt(c));
    }
    for (int t = 2; t < 16; t++) {
      Due.made(x, "table " + (char) ('a' + t) + " (p n, q t, r d, s d, t t, u n);", t);
    }
    Due.is("type(15, 5), the last of all", x.type(15, 5), 'n');
    Due.is("type(15, 4)", x.type(15, 4), 't');
  }

  private static void typeOfNoneSuch() {
    Due.by("8: NONE when there is none such");
    TableCatalog x = kinds();
    for (int t : NO_TABLES) {
      for (int c : new int[] {0, 1, 8, -8}) {
        Due.is("type(" + t + ", " + c + ")", x.type(t, c), -1);
      }
    }
    int[] counts = {3, 3, 6, 1, 6, 1};
    for (int t = 0; t < 6; t++) {
      // eight columns on or back another TABLE's would stand
      for (int c : new int[] {counts[t], counts[t] + 1, 6, 7, 8, 16, -1, -2, -8, 1 << 29, MIN, MAX}) {
        Due.is("type(" + t + ", " + c + ")", x.type(t, c), -1);
      }
    }
    x.drop(5);
    Due.is("type(5, 0), gone", x.type(5, 0), -1);
    Due.is("type(6, 0), not yet", x.type(6, 0), -1);
  }

  // ---- what it is, and its constant

  private static void noneIsMinusOne() {
    Due.by("NONE = -1: There is none; it is refused");
    Due.is("NONE", TableCatalog.NONE, -1);
    Due.is("named of no NAME", new TableCatalog().named(), TableCatalog.NONE);
  }

  private static void theLastCallHoldsAsWell() {
    Due.by("An object is used for at most 512 calls after it has been made");
    for (int last = 0; last < 4; last++) {
      TableCatalog x = new TableCatalog();
      Due.feed(x, "table a (x n, y t);");
      x.act();
      x.feed(0x61000000, 0, 0, 0, 0);
      x.end(1);
      for (int call = 5; call < 512; call++) {
        Due.is("call " + call, x.type(0, 1), 't');
      }
      // the 512th
      switch (last) {
        case 0: Due.is("named", x.named(), 0); break;
        case 1: Due.is("act", x.act(), -1); break;
        case 2: Due.is("ask", x.ask(9, 0, 3), 0); break;
        default: Due.is("retype", x.retype(0, 1, 'd'), 0); break;
      }
    }
  }
}
