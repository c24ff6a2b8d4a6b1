/** The FAULTS of Terms I: a test of its own for each sentence that names an edge. */
public final class EdgesOfFaultsTest {
  public static void main(String[] args) {
    theFirstByteWithWhichNoneGoesOn();
    whatIsDueCannotBeLeftOut();
    namesAndDigitsAreWhole();
    textsAreNotWhole();
    theTextsLengthIfItEndsTooSoon();
    aNinthLetterAtItself();
    aFifthDigitAtItself();
    whatIsBehindTheStatement();
    aSixthTermMoreAtItsSign();
    aFourthBracketAtItself();
    aSeventhColumnAtItsFirstByte();
    aFourthTableAtItsFirstByte();
    oneGoesAheadOfAllOthers();
    theOneFarthestAhead();
    notThereBehindFrom();
    notThereInAFormula();
    ofTwoNamesTheFirstOrTheOther();
    cannotBeAtTheOperator();
    cannotBeOfWhatIsToItsLeft();
    cannotBeAtTheSign();
    cannotBeAtLenOrStr();
    alreadyATable();
    alreadyAColumn();
    alreadyBehindFrom();
    noColumnOfWhatIsNotThere();
    whatIsNotThereFitsEverywhere();
    whatCannotBeFitsEverywhere();
    lenIsANumberWhateverStandsInIt();
    strIsATextWhateverStandsInIt();
    sixteenTablesAreFull();
    goneOnesCountToo();
    fullIsTheLastOfTheFaults();
    Due.close();
  }

  private static TableCatalog fits(String text) {
    TableCatalog x = Due.two();
    Due.made(x, text, 2);
    return x;
  }

  private static void bad(int fault, String marked) {
    TableCatalog x = Due.two();
    Due.bad(x, fault, marked);
    Due.is("table(2, 0) of what is refused", x.table(2, 0), -1);
  }

  private static void theFirstByteWithWhichNoneGoesOn() {
    Due.by("I: 1 the first byte with which no STATEMENT goes on");
    String[][] statements = {
      {"table", "q", "(", "x", "n", ",", "y", "t", ")", ";"},
      {"copy", "v", "=", "c", ":", "a", ".", "n", "-", "12", "+", "len", "(", "'x'", "&", "str", "(", "1", ")", ")", ",", "e", ":",
        "2", "from", "a", ",", "b", "where", "a", ".", "t", "<", "b", ".", "t", ";"},
    };
    for (String[] words : statements) {
      String head = "";
      for (String word : words) {
        // neither goes on with any of these, whatever is due; a wrong byte behind it never counts
        for (String wrong : new String[] {"?", "A", "\0", "\t", "" + (char) 255, "_;;;"}) {
          bad(1, head + "^" + wrong + word);
          bad(1, head + " \n^" + wrong + " ?" + word);
        }
        head += word + " ";
      }
      bad(1, head + "^?");
      fits(head);
    }
  }

  private static void whatIsDueCannotBeLeftOut() {
    Due.by("I: 1 the first byte with which no STATEMENT goes on (what is due is left out)");
    bad(1, "^(x n);");
    bad(1, "^q (x n);");
    bad(1, "^= c : 1 from a;");
    bad(1, "table ^(x n);");
    bad(1, "table q ^x n);");
    bad(1, "table q (x n ^;");
    bad(1, "table q (x n)^");
    bad(1, "table q (x n ^y t);");
    bad(1, "table q (x ^, y t);");
    bad(1, "table q (^, x n);");
    bad(1, "table q (x n, ^);");
    bad(1, "view ^= c : 1 from a;");
    bad(1, "view v ^c : 1 from a;");
    bad(1, "view v = ^: 1 from a;");
    bad(1, "view v = ^from a;");
    bad(1, "view v = c ^1 from a;");
    bad(1, "view v = c ^a;");
    bad(1, "view v = c ^from a;");
    bad(1, "view v = c : ^from a;");
    bad(1, "view v = c : ^, e : 1 from a;");
    bad(1, "view v = c : a ^b;");
    bad(1, "view v = c : a ^from a;");
    bad(1, "view v = c : a.^from a;");
    bad(1, "view v = c : 1 ^a;");
    bad(1, "view v = c : 1 ^e : 2 from a;");
    bad(1, "view v = c : 1, ^from a;");
    bad(1, "view v = c : 1 + ^from a;");
    bad(1, "view v = c : 1 ^2 from a;");
    bad(1, "view v = c : len ^'' from a;");
    bad(1, "view v = c : len ( ^) from a;");
    bad(1, "view v = c : len ( '' ^from a;");
    bad(1, "view v = c : 1 ^) from a;");
    bad(1, "view v = c : 1 from ^;");
    bad(1, "view v = c : 1 from ^where 1 < 2;");
    bad(1, "view v = c : 1 from a ^b;");
    bad(1, "view v = c : 1 from a, ^;");
    bad(1, "view v = c : 1 from a, ^where 1 < 2;");
    bad(1, "view v = c : 1 from a ^1 < 2;");
    bad(1, "view v = c : 1 from a where ^< 2;");
    bad(1, "view v = c : 1 from a where ^;");
    bad(1, "view v = c : 1 from a where 1 ^2;");
    bad(1, "view v = c : 1 from a where 1 ^;");
    bad(1, "view v = c : 1 from a where 1 < ^;");
    bad(1, "view v = c : 1 from a where 1 < 2 ^< 3;");
    bad(1, "view v = c : 1 from a where 1 < 2^");
  }

  private static void namesAndDigitsAreWhole() {
    Due.by("I: (NAMES and digits whole: at their first byte");
    bad(1, "^tabl q (x n);");
    bad(1, "^tables q (x n);");
    bad(1, "^tab");
    bad(1, "^viewq = c : 1 from a;");
    bad(1, "table q (x ^nt);");
    bad(1, "table q (x ^tables);");
    bad(1, "table ^where (x n);");
    bad(1, "view v = c : 1 ^fro a;");
    bad(1, "view v = c : 1 ^fromm a;");
    bad(1, "view v = c : 1 ^fr");
    bad(1, "view v = c : 1 from a ^wher 1 < 2;");
    bad(1, "view v = c : 1 from a ^wheree 1 < 2;");
    bad(1, "view v = c : 1 from a ^whe");
    bad(1, "table ^12 (x n);");
    bad(1, "table q ^1234 (x n);");
    bad(1, "table q (x ^12);");
    bad(1, "view v = c : a.n ^123 from a;");
    bad(1, "view v = c : a.^12 from a;");
    // where none is due they are not looked into: no 9th letter, no 5th digit
    bad(1, "^abcdefghijk q (x n);");
    bad(1, "table q (x ^abcdefghijk);");
    bad(1, "table q ^abcdefghijk (x n);");
    bad(1, "view v = c : 1 ^abcdefghijk a;");
    bad(1, "table q (x ^1234567);");
    bad(1, "view v = c : a.^1234567 from a;");
  }

  private static void textsAreNotWhole() {
    Due.by("I: 1 the first byte (of a text, the one in it)");
    bad(1, "view v = c : 'ab^1' from a;");
    bad(1, "view v = c : '^A' from a;");
    bad(1, "view v = c : 'a b^\n' from a;");
    bad(1, "view v = c : 'a^;");
    // where none is due, its first byte
    bad(1, "view v = ^'a' : 1 from a;");
    bad(1, "view v = c : 1 ^'a1' from a;");
    bad(1, "table ^'A");
  }

  private static void theTextsLengthIfItEndsTooSoon() {
    Due.by("I: at the text's length, if it ends too soon");
    TableCatalog x = new TableCatalog();
    Due.is("act of an empty tape", x.act(), -1);
    Due.is("fault(0)", x.fault(0), 1);
    Due.is("fault(1)", x.fault(1), 0);
    bad(1, "^");
    bad(1, "\n^");
    bad(1, "    ^");
    for (String text : new String[] {"table q ( x n , y t ) ", "copy v = c : a . n + 12 - len ( '' & str ( 1 ) ) , e : 'x y' from a , b where a . t < b . t "}) {
      for (int stop = text.indexOf(' '); stop >= 0; stop = text.indexOf(' ', stop + 1)) {
        // within ' a blank is a sign like others: the text ends too soon there, too
        bad(1, text.substring(0, stop) + "^");
        bad(1, text.substring(0, stop) + " ^");
        bad(1, text.substring(0, stop) + "   ^");
      }
    }
    // the longest text, of 400 bytes
    String blanks = "table q (x n)";
    while (blanks.length() < 400) {
      blanks += " ";
    }
    Due.bad(Due.two(), blanks, 1, 400);
  }

  private static void aNinthLetterAtItself() {
    Due.by("I: a 9th letter at itself");
    bad(1, "table abcdefgh^i (x n);");
    bad(1, "table abcdefgh^ijklmnop");
    bad(1, "table   zzzzzzzz^z");
    bad(1, "view abcdefgh^i = c : 1 from a;");
    bad(1, "table q (x n, abcdefgh^i n);");
    bad(1, "view v = abcdefgh^i : 1 from a;");
    bad(1, "view v = c : abcdefgh^i.n from a;");
    bad(1, "view v = c : a.abcdefgh^i from a;");
    bad(1, "view v = c : lenlenle^n('') from a;");
    bad(1, "view v = c : 1 from abcdefgh^i;");
    bad(1, "view v = c : 1 from a, abcdefgh^i;");
    bad(1, "table wherewhe^re (x n);");
    fits("table abcdefgh (x n);");
  }

  private static void aFifthDigitAtItself() {
    Due.by("I: a 5th digit at itself");
    bad(1, "view v = c : 1234^5 from a;");
    bad(1, "view v = c : 0000^0000 from a;");
    bad(1, "view v = c : 1 + 1234^5");
    bad(1, "view v = c : len(str(1234^5)) from a;");
    bad(1, "view v = c : 1 from a where 1 < 1234^5;");
    fits("view v = c : 1234 from a;");
  }

  private static void whatIsBehindTheStatement() {
    Due.by("I: what is behind the STATEMENT");
    for (String text : new String[] {"table q (x n);", "view v = c : 1 from a;", "copy v = c : 1 from a where 1 < 1;"}) {
      fits(text);
      fits(text + " \n ");
      bad(1, text + "^;");
      bad(1, text + "^x");
      bad(1, text + " \n ^abcdefghij");
      bad(1, text + " ^12345");
      bad(1, text + " ^'a'");
      bad(1, text + "^\0");
      bad(1, text + "^table r (x n);");
    }
    // none but 400 bytes go on the tape, the last of which is looked at
    String full = "table q (x n);";
    while (full.length() < 399) {
      full += " ";
    }
    fits(full + "\n");
    bad(1, full + "^?");
  }

  private static void aSixthTermMoreAtItsSign() {
    Due.by("I: a 6th TERM more at its + - &");
    bad(1, "view v = c : 1+1+1+1+1+1^+1 from a;");
    bad(1, "view v = c : 1+1+1+1+1+1 ^- 1 from a;");
    bad(1, "view v = c : 1+1+1+1+1+1\n^&1 from a;");
    bad(1, "view v = c : 1+1+1+1+1+1^+");
    bad(1, "view v = c : 1+1+1+1+1+1^+ 12345");
    bad(1, "view v = c : str(1+1+1+1+1+1^+1) from a;");
    bad(1, "view v = c : 1 from a where 1+1+1+1+1+1^+1 < 1;");
    bad(1, "view v = c : 1 from a where 1 < 1+1+1+1+1+1^+1;");
    fits("view v = c : 1+1+1+1+1+1 from a;");
  }

  private static void aFourthBracketAtItself() {
    Due.by("I: a 4th bracket at its first byte");
    bad(1, "view v = c : len(str(len(str^(1)))) from a;");
    bad(1, "view v = c : len(str(len(str \n^(1)))) from a;");
    bad(1, "view v = c : len(str(len(len^");
    bad(1, "view v = c : len(str(len(str^(12345");
    fits("view v = c : len(str(len(''))) from a;");
  }

  private static void aSeventhColumnAtItsFirstByte() {
    Due.by("I: a 7th COLUMN at its first byte");
    bad(1, "table q (r n,s n,t n,u n,v n,w n,^x n);");
    bad(1, "table q (r n,s n,t n,u n,v n,w n , ^abcdefghij n);");
    bad(1, "table q (r n,s n,t n,u n,v n,w n,^");
    bad(1, "table q (r n,s n,t n,u n,v n,w n,^r");
    bad(1, "table q (r n,s n,t n,u n,v n,w n,^;");
    bad(1, "table q (r n,s n,t n,u n,v n,w n,^);");
    bad(1, "view v = r:1,s:1,t:1,u:1,v:1,w:1,^x:1 from a;");
    bad(1, "copy v = r:1,s:1,t:1,u:1,v:1,w:1,\n^abcdefghij");
    bad(1, "view v = r:1,s:1,t:1,u:1,v:1,w:1,^from a;");
    bad(1, "view v = r:1,s:1,t:1,u:1,v:1,w:1,^a;");
    bad(1, "view v = r:1,s:1,t:1,u:1,v:1,w:1,^;");
    fits("table q (r n,s n,t n,u n,v n,w n);");
    fits("view v = r:1,s:1,t:1,u:1,v:1,w:1 from a;");
  }

  private static void aFourthTableAtItsFirstByte() {
    Due.by("I: a 4th TABLE at its first byte");
    TableCatalog x = fits("table q (x n);");
    Due.made(x, "table r (x n);", 3);
    Due.bad(x, 1, "view v = c : 1 from a,b,q,^r;");
    Due.bad(x, 1, "view v = c : 1 from a,b,q , ^abcdefghij;");
    Due.bad(x, 1, "view v = c : 1 from a,b,q,^");
    Due.bad(x, 1, "view v = c : 1 from a,b,q,^where 1 < 1;");
    Due.bad(x, 1, "view v = c : 1 from a,b,q,^;");
    Due.bad(x, 1, "view v = c : 1 from a,a,a,^a;");
    Due.made(x, "view v = c : 1 from a,b,q;", 4);
  }

  private static void oneGoesAheadOfAllOthers() {
    Due.by("I: if there is none, of the following");
    bad(1, "table a (x n, x n)^");
    bad(1, "table a (x n);^?");
    bad(1, "view v = c : 1 + 'a' from a^");
    bad(1, "view v = c : q.x from a^?");
    bad(1, "view v = c : 1 from a, a^.");
    bad(1, "view a = c : len(1) + q.q, c : 1 + '' from a, a, q where 1 < '' ^: 1;");
    TableCatalog x = new TableCatalog();
    for (int t = 0; t < 16; t++) {
      Due.made(x, "table " + (char) ('a' + t) + " (x n);", t);
    }
    Due.bad(x, 1, "table q (x n)^");
  }

  private static void theOneFarthestAhead() {
    Due.by("I: of the following the one farthest ahead in the text");
    bad(2, "view v = c : ^q.x + 1 & 2 from a;");
    bad(3, "view v = c : 1 ^& 2 + q.x from a;");
    bad(2, "view v = c : ^q.x, c : 1 from a;");
    bad(4, "view v = c : 1, ^c : q.x from a;");
    bad(3, "view v = c : 1 ^& 2, c : 1 from a;");
    bad(4, "view v = c : 1, ^c : 1 & 2 from a;");
    bad(4, "view ^a = c : q.x, d : 1 & 2 from a, a, q;");
    bad(2, "view v = c : 1 from ^q, a, a;");
    bad(4, "view v = c : 1 from a, ^a, q;");
    bad(2, "view v = c : 1 from ^q where 1 < '';");
    bad(3, "view v = c : 1 from a where '' ^< len(q.x);");
    bad(2, "view v = c : 1 from a where ^q.x & 1 < 1 & 2;");
    bad(3, "view v = c : ^len(a.n) + q.x from a;");
    bad(2, "view v = c : len(a.^x) & 1 from a;");
    bad(3, "view v = c : 1 ^+ '' + len(1) from a;");
    bad(3, "view v = c : 1, d : 1 ^& 1, e : 1 & 1 from a where 1 < '';");
    bad(2, "view v = c : q.x + ^r.x + a.x from a, q;");
    bad(4, "table ^a (x n, x n, x n);");
    bad(4, "table q (x n, ^x n, x n);");
  }

  private static void notThereBehindFrom() {
    Due.by("I: 2 a NAME that is not there, behind from");
    bad(2, "view v = c : 1 from ^q;");
    bad(2, "view v = c : 1 from a, ^q;");
    bad(2, "view v = c : 1 from a, b, ^q;");
    bad(2, "view v = c : 1 from a, ^q, r;");
    // neither a COLUMN, nor the table itself, nor one that is gone is there
    bad(2, "view v = c : a.n from a, ^n;");
    bad(2, "view v = c : 1 from ^v;");
    TableCatalog x = fits("table q (x n);");
    Due.is("drop(2)", x.drop(2), 0);
    Due.bad(x, 2, "view v = c : 1 from ^q;");
    Due.bad(x, 2, "view v = c : q.x from a, ^q;");
  }

  private static void notThereInAFormula() {
    Due.by("I: 2 a NAME that is not there, in a FORMULA");
    bad(2, "view v = c : ^q.n from a;");
    bad(2, "view v = c : a.n + a.n - a.^q from a;");
    bad(2, "view v = c : len(str(a.n) & ^q.n) from a;");
    bad(2, "view v = c : 1 from a where ^q.n < 1;");
    bad(2, "view v = c : 1 from a where 1 < a.^q;");
    bad(2, "view v = c : 1, d : 2, e : 3, f : 4, g : 5, h : a.^q from a;");
    // a SELECT's own COLUMNS are none of a TABLE's
    bad(2, "view v = c : a.n, d : ^v.c from a;");
    bad(2, "view v = c : a.n, d : a.^c from a;");
  }

  private static void ofTwoNamesTheFirstOrTheOther() {
    Due.by("I: (of NAME . NAME at the first one, if no such TABLE is behind from, else at the other one)");
    bad(2, "view v = c : ^q.q from a;");
    bad(2, "view v = c : a . ^q from a;");
    bad(2, "view v = c : a . ^q from b, a;");
    // b is there, but not behind from
    bad(2, "view v = c : ^b.n from a;");
    bad(2, "view v = c : ^b.q from a;");
    // the COLUMN is one of another that is behind from
    TableCatalog x = fits("table q (x n);");
    Due.bad(x, 2, "view v = c : a.^x from a, q;");
    Due.bad(x, 2, "view v = c : q.^n from a, q;");
    Due.bad(x, 2, "view v = c : ^x.x from q;");
    Due.made(x, "view v = c : q.x + a.n from a, q;", 3);
  }

  private static void cannotBeAtTheOperator() {
    Due.by("I: 3 a TYPE that can't be: at the + - &");
    bad(3, "view v = c : a.n ^+ a.t from a;");
    bad(3, "view v = c : a.n\n\n^- a.t from a;");
    bad(3, "view v = c : a.n^&a.t from a;");
    bad(3, "view v = c : 1, d : 2, e : 3, f : 4, g : 5, h : '' ^+ '' from a;");
    bad(3, "view v = c : len(a.t & a.t ^& 1) from a;");
    bad(3, "view v = c : 1 from a where a.t & a.t ^& 1 < a.t;");
    bad(3, "view v = c : 1 from a where a.t < a.t ^& 1;");
  }

  private static void cannotBeOfWhatIsToItsLeft() {
    Due.by("I: (of what is to its left and the TERM behind it)");
    bad(3, "view v = c : 1 + 1 + 1 ^& '' & '' from a;");
    bad(3, "view v = c : a.d - a.d ^- a.d - a.d from a;");
    bad(3, "view v = c : 1 ^+ a.d - a.d from a;");
    fits("view v = c : a.d - a.d + 1 from a;");
    fits("view v = c : a.d + 1 - a.d - 1 from a;");
    // the TERM behind it is a bracket's, not what stands in it
    fits("view v = c : 1 + len('') from a;");
    bad(3, "view v = c : 1 ^+ str(1) from a;");
  }

  private static void cannotBeAtTheSign() {
    Due.by("I: 3 a TYPE that can't be: at the SIGN");
    bad(3, "view v = c : 1 from a where 1 ^< '';");
    bad(3, "view v = c : 1 from a where a.d\n^=\na.n;");
    bad(3, "view v = c : 1 from a where a.d + 1 + 1 ^= a.d - a.d;");
    fits("view v = c : 1 from a where a.d + 1 + 1 = a.d;");
  }

  private static void cannotBeAtLenOrStr() {
    Due.by("I: 3 a TYPE that can't be: at len or str");
    bad(3, "view v = c : ^len ( 1 ) from a;");
    bad(3, "view v = c : ^str ( '' ) from a;");
    bad(3, "view v = c : 1 + ^len(a.d) from a;");
    bad(3, "view v = c : len(str(^len(a.d))) from a;");
    bad(3, "view v = c : 1 from a where 1 < ^len(a.n + 1);");
    // the outer one is ahead
    bad(3, "view v = c : ^len(len(1)) from a;");
  }

  private static void alreadyATable() {
    Due.by("I: 4 a NAME that is there already: of a TABLE");
    bad(4, "table ^a (x n);");
    bad(4, "view  ^b = c : 1 from a;");
    bad(4, "copy\n^b = c : 1 from a;");
    TableCatalog x = fits("copy q = c : 1 from a;");
    Due.bad(x, 4, "table ^q (x n);");
    Due.is("freeze(2)", x.freeze(2), true);
    Due.bad(x, 4, "view ^q = c : 1 from a;");
    Due.is("drop(2)", x.drop(2), 0);
    Due.made(x, "view q = c : 1 from a;", 3);
    // a COLUMN's NAME is none of a TABLE
    Due.made(x, "table n (n n, a n);", 4);
  }

  private static void alreadyAColumn() {
    Due.by("I: 4 a NAME that is there already: of a COLUMN");
    bad(4, "table q (x n, y n, ^x d);");
    bad(4, "view v = c : 1, d : 1, ^d : 1 from a;");
    bad(4, "copy v = c : 1, ^c : 1, c : 1 from a;");
  }

  private static void alreadyBehindFrom() {
    Due.by("I: 4 a NAME that is there already: behind from");
    bad(4, "view v = c : 1 from a, ^a;");
    bad(4, "view v = c : 1 from a, b, ^a;");
    bad(4, "view v = c : 1 from a, b, ^b where 1 < 1;");
    bad(4, "view v = c : 1 from a, ^a, a;");
    // what is not there is at fault at its first place
    bad(2, "view v = c : 1 from ^q, q;");
  }

  private static void noColumnOfWhatIsNotThere() {
    Due.by("I: (Of a NAME behind from that is not there no COLUMN is looked at");
    bad(2, "view v = c : q.x + q.y from ^q;");
    bad(2, "view v = c : q.x + a.n from a, ^q where q.z < q.q;");
    bad(2, "view v = c : q.q + a.^x from q, a;");
    TableCatalog x = fits("table q (x n);");
    Due.is("drop(2)", x.drop(2), 0);
    Due.bad(x, 2, "view v = c : q.y from ^q;");
  }

  private static void whatIsNotThereFitsEverywhere() {
    Due.by("I: what is not there fits everywhere");
    for (String sign : new String[] {"+", "-", "&"}) {
      for (String term : new String[] {"1", "''", "a.d", "q.y"}) {
        bad(2, "view v = c : q.x " + sign + " " + term + " from a, ^q;");
        bad(2, "view v = c : " + term + " " + sign + " q.x from a, ^q;");
        bad(2, "view v = c : " + term + " " + sign + " b.^x from a, b, q;");
      }
    }
    for (String term : new String[] {"1", "''", "a.d", "q.y"}) {
      bad(2, "view v = c : 1 from a, ^q where q.x < " + term + ";");
      bad(2, "view v = c : 1 from a, ^q where " + term + " = q.x;");
    }
    bad(2, "view v = c : len(q.x), d : str(q.x) from ^q;");
    bad(2, "view v = c : len(q.x + 1) from ^q;");
    bad(2, "view v = c : q.x & '' + 1 - a.d from a, ^q;");
  }

  private static void whatCannotBeFitsEverywhere() {
    Due.by("I: or can't be, fits everywhere");
    bad(3, "view v = c : len(1 ^+ '') from a;");
    bad(3, "view v = c : str('' ^+ '') from a;");
    bad(3, "view v = c : len(str('' ^& 1)) from a;");
    bad(3, "view v = c : 1 ^& 1 & 1 + '' from a;");
    bad(3, "view v = c : len(1 ^& 1 & 1 - a.d) from a;");
    // the SIGN behind is a fault no more, nor one ahead of it in the text
    bad(3, "view v = c : 1 from a where 1 < '' ^+ '';");
    bad(3, "view v = c : 1 from a where 1 = a.n ^+ a.d;");
  }

  private static void lenIsANumberWhateverStandsInIt() {
    Due.by("I: but len ( ) is an n, whatever stands in it");
    bad(3, "view v = c : len(q.x) ^& '' from q;");
    bad(3, "view v = c : '' ^& len(q.x) from q;");
    bad(3, "view v = c : '' ^& len(1) from a;");
    bad(3, "view v = c : '' ^& len(1 & 1) from a;");
    bad(3, "view v = c : ^len(len(q.x)) from q;");
    bad(3, "view v = c : 1 from a where '' ^< len(q.x);");
    bad(2, "view v = c : 1 from a where 1 < len(^q.x);");
    bad(2, "view v = c : str(len(q.x)) & str(1 + len(q.x)) from ^q;");
  }

  private static void strIsATextWhateverStandsInIt() {
    Due.by("I: and str ( ) a t, whatever stands in it");
    bad(3, "view v = c : str(q.x) ^+ 1 from q;");
    bad(3, "view v = c : 1 ^+ str(q.x) from q;");
    bad(3, "view v = c : 1 ^+ str('') from a;");
    bad(3, "view v = c : 1 ^+ str('' + '') from a;");
    bad(3, "view v = c : ^str(str(q.x)) from q;");
    bad(3, "view v = c : 1 from a where 1 ^= str(q.x);");
    bad(2, "view v = c : 1 from a where '' = str(^q.x);");
    bad(2, "view v = c : len(str(q.x)) + len('' & str(q.x)) from ^q;");
  }

  private static TableCatalog full() {
    TableCatalog x = Due.two();
    for (int t = 2; t < 16; t++) {
      Due.is("table(t, 0) ahead of it", x.table(t, 0), -1);
      Due.made(x, "table " + (char) ('a' + t) + " (x n);", t);
    }
    return x;
  }

  private static void sixteenTablesAreFull() {
    Due.by("I: With 16 TABLES: 5 at the place 0");
    TableCatalog x = full();
    Due.bad(x, "table q (x n);", 5, 0);
    Due.bad(x, " \n table q (x n);", 5, 0);
    Due.bad(x, "view q = c : a.n from a;", 5, 0);
    Due.bad(x, "copy q = c : a.n from a where 1 < 2;", 5, 0);
    Due.is("named q", Due.named(x, "q"), -2);
    // the sixteenth itself is taken as any other
    Due.is("table(15, 0)", x.table(15, 0), 0);
  }

  private static void goneOnesCountToo() {
    Due.by("I: With 16 TABLES (gone ones, too)");
    TableCatalog x = full();
    for (int t = 15; t >= 0; t--) {
      Due.is("drop", x.drop(t), 0);
      Due.bad(x, "table q (x n);", 5, 0);
    }
    Due.bad(x, "table a (x n);", 5, 0);
    TableCatalog y = new TableCatalog();
    for (int t = 0; t < 16; t++) {
      Due.made(y, "table q (x n);", t);
      Due.is("drop", y.drop(t), 0);
    }
    Due.bad(y, "table q (x n);", 5, 0);
  }

  private static void fullIsTheLastOfTheFaults() {
    Due.by("I: 5 if there is no other");
    TableCatalog x = full();
    Due.bad(x, 1, "table q (x n)^");
    Due.bad(x, 2, "view q = c : 1 from ^q;");
    Due.bad(x, 2, "view q = c : a.^x from a;");
    Due.bad(x, 3, "view q = c : a.n ^+ a.t from a;");
    Due.bad(x, 4, "table ^a (x n);");
    Due.bad(x, 4, "table q (x n, ^x n);");
    Due.bad(x, 4, "view q = c : 1 from a, ^a;");
    Due.bad(x, "table q (x n);", 5, 0);
  }
}
