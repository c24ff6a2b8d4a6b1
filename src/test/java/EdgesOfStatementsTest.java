/** Terms I but its FAULTS: a test of its own for each sentence that names an edge. */
public final class EdgesOfStatementsTest {
  private static final String[] WORDS = {"view", "copy", "table", "from", "where", "len", "str"};

  public static void main(String[] args) {
    namesHaveOneToEightLetters();
    namesHaveLettersAToZ();
    namesAreNotTheWords();
    tablesAreZeroToFifteen();
    columnsAreOneToSix();
    columnsHaveUnlikeNames();
    typesAreThree();
    aStatementEndsWithItsSign();
    blanksAreTwoBytes();
    blanksStandWhereOneLikes();
    namesSideBySideNeedABlank();
    aWordBeginsIt();
    behindFromAreOneToThree();
    theWhereMayBeMissing();
    theSignIsOneOfTwo();
    upToFiveMoreTerms();
    moreTermsBehindThreeSigns();
    aTermIsAColumn();
    oneToFourDigits();
    textsOfLettersAndBlanks();
    bracketsBehindLenAndStr();
    threeBracketsOpenAtOnce();
    typesOfTwoTerms();
    fromTheLeftOn();
    lenIsOfAText();
    strIsOfANumber();
    bothSidesOfASignAreAlike();
    Due.close();
  }

  /** A statement that is taken, the first behind a and b. */
  private static TableCatalog fits(String text) {
    TableCatalog x = Due.two();
    Due.made(x, text, 2);
    return x;
  }

  /** A statement, refused with a fault at the mark ^, though a and b are there. */
  private static void bad(int fault, String marked) {
    TableCatalog x = Due.two();
    Due.bad(x, fault, marked);
    Due.is("table(2, 0) of what is refused", x.table(2, 0), -1);
  }

  private static boolean isLetter(int sign) {
    return sign >= 'a' && sign <= 'z';
  }

  private static boolean isBlank(int sign) {
    return sign == 10 || sign == 32;
  }

  private static void namesHaveOneToEightLetters() {
    Due.by("I: NAMES: 1 to 8 letters");
    fits("table q (x n);");
    fits("table abcdefgh (abcdefgh n);");
    fits("view abcdefgh = zyxwvuts : a.n from a;");
    bad(1, "table ^(x n);");
    bad(1, "table q ( ^);");
    bad(1, "view ^= c : 1 from a;");
    bad(1, "view v = ^: 1 from a;");
    bad(1, "view v = c : ^.n from a;");
    bad(1, "view v = c : a.^+ 1 from a;");
    bad(1, "view v = c : 1 from ^;");
    bad(1, "table abcdefgh^i (x n);");
    bad(1, "table abcdefgh^ijklmnopqrstuvwxyz (x n);");
    bad(1, "table q (abcdefgh^i n);");
    bad(1, "view abcdefgh^i = c : 1 from a;");
    bad(1, "copy v = abcdefgh^i : 1 from a;");
    bad(1, "view v = c : abcdefgh^i.n from a;");
    bad(1, "view v = c : a.abcdefgh^i from a;");
    bad(1, "view v = c : 1 from abcdefgh^i;");
    // all eight letters count
    TableCatalog x = fits("table abcdefgh (abcdefgh n, abcdefgi t);");
    Due.made(x, "table abcdefgi (x n);", 3);
    Due.made(x, "view v = c : abcdefgh.abcdefgi from abcdefgh;", 4);
    Due.is("type(4, 0)", x.type(4, 0), 't');
    Due.is("named abcdefgi", Due.named(x, "abcdefgi"), 3);
    Due.is("named abcdefgj", Due.named(x, "abcdefgj"), -2);
    Due.is("named bbcdefgh", Due.named(x, "bbcdefgh"), -2);
  }

  private static void namesHaveLettersAToZ() {
    Due.by("I: NAMES: letters a .. z");
    for (int sign = 0; sign < 256; sign++) {
      TableCatalog x = new TableCatalog();
      String name = "" + (char) sign;
      if (isLetter(sign)) {
        Due.made(x, "table " + name + " (" + name + " n);", 0);
        Due.made(x, "view q" + name + "q = " + name + " : " + name + "." + name + " from " + name + ";", 1);
        Due.is("named " + name, Due.named(x, name), 0);
        Due.is("named q" + name + "q", Due.named(x, "q" + name + "q"), 1);
      } else if (!isBlank(sign)) {
        Due.bad(x, "table " + name + " (x n);", 1, 6);
        Due.bad(x, "table q" + name + "(x n);", 1, sign == '(' ? 8 : 7);
        Due.bad(x, "table q(x" + name + " n);", 1, 9);
        Due.is("named q and the byte " + sign, Due.named(x, "q" + name), -1);
        Due.is("named of the byte " + sign, Due.named(x, name), -1);
      }
    }
  }

  private static void namesAreNotTheWords() {
    Due.by("I: NAMES: not view, copy, table, from, where, len, str");
    for (String word : WORDS) {
      bad(1, "table ^" + word + " (x n);");
      bad(1, "view ^" + word + " = c : 1 from a;");
      bad(1, "copy ^" + word + " = c : 1 from a;");
      bad(1, "table q (^" + word + " n);");
      bad(1, "table q (x n, ^" + word + " n);");
      bad(1, "view v = ^" + word + " : 1 from a;");
      bad(1, "view v = c : 1, ^" + word + " : 1 from a;");
      bad(1, "view v = c : 1 from ^" + word + ";");
      bad(1, "view v = c : 1 from a, ^" + word + ";");
      bad(1, "view v = c : a.^" + word + " from a;");
      // len and str are right at a TERM, but no NAME: then a bracket is due
      boolean bracket = word.equals("len") || word.equals("str");
      bad(1, "view v = c : " + (bracket ? word + "^" : "^" + word) + ".n from a;");
      bad(1, "view v = c : 1 from a where 1 < " + (bracket ? word + "^" : "^" + word) + ".n;");
      Due.is("named " + word, Due.named(Due.two(), word), -1);
      String[] names = {word + "s", "s" + word, word.substring(1), word.substring(0, word.length() - 1)};
      for (String name : names) {
        TableCatalog x = fits("table " + name + " (" + name + " n);");
        Due.made(x, "view q = " + name + " : " + name + "." + name + " from " + name + ";", 3);
        Due.is("named " + name, Due.named(x, name), 2);
      }
    }
  }

  private static void tablesAreZeroToFifteen() {
    Due.by("I: TABLES 0 .. 15 (as they came)");
    TableCatalog x = new TableCatalog();
    for (int t = 0; t < 16; t++) {
      Due.is("table(t, 0) ahead of it", x.table(t, 0), -1);
      Due.made(x, "table " + (char) ('z' - t) + " (x n);", t);
      Due.is("table(t, 0)", x.table(t, 0), 0);
    }
    for (int t = 0; t < 16; t++) {
      Due.is("named", Due.named(x, "" + (char) ('z' - t)), t);
    }
    Due.is("table(16, 0)", x.table(16, 0), -1);
    Due.is("table(-1, 0)", x.table(-1, 0), -1);
    Due.bad(x, "table b (x n);", 5, 0);
    Due.is("table(16, 0)", x.table(16, 0), -1);
    Due.is("named b", Due.named(x, "b"), -2);
  }

  private static void columnsAreOneToSix() {
    Due.by("I: COLUMNS (1 to 6, from 0 on)");
    bad(1, "table q (^);");
    bad(1, "view v = ^from a;");
    String source = "";
    String select = "";
    for (int count = 1; count <= 6; count++) {
      String name = (count == 1 ? "" : ",") + (char) ('k' + count);
      source += name + " " + "ntd".charAt(count % 3);
      select += name + ":" + (count % 2 == 0 ? "1" : "''");
      TableCatalog x = fits("table q (" + source + ");");
      Due.made(x, "view v = " + select + " from q;", 3);
      Due.is("columns of the table", x.table(2, 1), count);
      Due.is("columns of the view", x.table(3, 1), count);
      Due.is("type of the table's last", x.type(2, count - 1), "ntd".charAt(count % 3));
      Due.is("type of the view's last", x.type(3, count - 1), count % 2 == 0 ? 'n' : 't');
      Due.is("type behind the table's last", x.type(2, count), -1);
      Due.is("type behind the view's last", x.type(3, count), -1);
    }
    bad(1, "table q (" + source + ",^z n);");
    bad(1, "view v = " + select + ",^z:1 from a;");
    bad(1, "copy v = " + select + ",^z:1 from a;");
  }

  private static void columnsHaveUnlikeNames() {
    Due.by("I: COLUMNS of unlike NAMES");
    bad(4, "table q (x n, ^x n);");
    bad(4, "table q (u n, v n, w n, x n, y n, ^u t);");
    bad(4, "table q (u n, v n, w n, x n, y n, ^y t);");
    bad(4, "table q (u n, v n, ^u n, v n, u n);");
    bad(4, "view v = u:1,v:1,w:1,x:1,y:1,^u:1 from a;");
    bad(4, "copy v = u:1,v:1,w:1,x:1,y:1,^y:1 from a;");
    bad(4, "table q (abcdefgh n, ^abcdefgh n);");
    fits("table q (abcdefgh n, abcdefgi n, abcdefg n, bbcdefgh n);");
    // they may be those of another TABLE's COLUMNS, or of TABLES
    fits("table q (n n, t t, a d, q n);");
  }

  private static void typesAreThree() {
    Due.by("I: TYPE: n number, t text, d day");
    for (int sign = 0; sign < 256; sign++) {
      String type = "" + (char) sign;
      if (sign == 'n' || sign == 't' || sign == 'd') {
        TableCatalog x = fits("table q (x " + type + ");");
        Due.is("type(2, 0)", x.type(2, 0), sign);
      } else if (!isBlank(sign)) {
        Due.bad(Due.two(), "table q (x " + type + ");", 1, 11);
      }
    }
    bad(1, "table q (x ^nn);");
    bad(1, "table q (x ^tn);");
    bad(1, "table q (x ^day);");
    bad(1, "table q (x ^abcdefghi);");
  }

  private static void aStatementEndsWithItsSign() {
    Due.by("I: A STATEMENT ends with ;");
    String[] texts = {"table q (x n)", "view v = c : 1 from a", "copy v = c : 1 from a, b", "view v = c : 1 from a where 1 < 2"};
    for (String text : texts) {
      fits(text + ";");
      fits(text + "\n;");
      bad(1, text + "^");
      bad(1, text + " \n ^");
      bad(1, text + "^:");
      bad(1, text + "^.;");
      bad(1, text + "^" + (char) (';' + 128));
      bad(1, text + ";^;");
    }
  }

  private static void blanksAreTwoBytes() {
    Due.by("I: blanks (10, 32)");
    for (int sign = 0; sign < 256; sign++) {
      String blank = "" + (char) sign;
      if (isBlank(sign)) {
        fits("table" + blank + "q" + blank + blank + "(" + blank + "x" + blank + "n);");
        Due.is("named with a blank", Due.named(Due.two(), blank + "b" + blank), 1);
      } else if (!isLetter(sign)) {
        Due.bad(Due.two(), "table" + blank + "q (x n);", 1, 5);
        Due.bad(Due.two(), "table q (x n)" + blank + " ;", 1, sign == ';' ? 15 : 13);
        Due.bad(Due.two(), "table q (x n);" + blank, 1, 14);
        Due.is("named with no blank", Due.named(Due.two(), blank + "b"), -1);
        Due.is("named with no blank behind", Due.named(Due.two(), "b" + blank), -1);
      }
    }
  }

  /** The same statement with each gap filled or not; only between two words it must be. */
  private static void blanksStandWhereOneLikes() {
    Due.by("I: blanks between where one likes");
    String[][] statements = {
      {"", "table", "q", "(", "x", "n", ",", "y", "t", ")", ";", ""},
      {"", "copy", "v", "=", "c", ":", "a", ".", "n", "+", "12", "-", "len", "(", "'x'", ")", ",", "e", ":", "str", "(", "1",
        ")", "&", "''", "from", "a", ",", "b", "where", "a", ".", "t", "<", "b", ".", "t", ";", ""},
    };
    for (String[] words : statements) {
      for (int gap = 1; gap < words.length; gap++) {
        for (String blank : new String[] {"", " ", "\n", " \n\n "}) {
          String text = "";
          for (int i = 1; i < words.length; i++) {
            boolean apart = isWord(words[i - 1]) && isWord(words[i]);
            text += (i == gap ? blank : apart ? " " : "") + words[i];
          }
          boolean joined = blank.isEmpty() && isWord(words[gap - 1]) && isWord(words[gap]);
          TableCatalog x = Due.two();
          Due.is("act '" + text + "'", Due.act(x, text), joined ? -1 : 2);
          Due.is("fault(0) of '" + text + "'", x.fault(0), joined ? 1 : 0);
        }
      }
    }
  }

  private static boolean isWord(String word) {
    return !word.isEmpty() && isLetter(word.charAt(0));
  }

  private static void namesSideBySideNeedABlank() {
    Due.by("I: (NAMES side by side need one)");
    bad(1, "^tableq (x n);");
    bad(1, "^viewv = c : 1 from a;");
    bad(1, "^copyv = c : 1 from a;");
    bad(1, "table q (xn^);");
    bad(1, "view v = c : a.nfrom ^a;");
    bad(1, "view v = c : 1 ^froma;");
    bad(1, "view v = c : 1 from awhere ^1 < 2;");
    bad(1, "view v = c : 1 from a ^wherea.n < 2;");
    fits("view v=c:1from a where'x'='x';");
    fits("view v=c:''from a where 1<len('');");
    fits("view v=c:len('')from a where1<2;");
  }

  private static void aWordBeginsIt() {
    Due.by("I: A STATEMENT is: table, a SOURCE; view, a VIEW; copy, a COPY");
    String[] words = {"table", "view", "copy"};
    for (int kind = 0; kind < 3; kind++) {
      String rest = kind == 0 ? " q (x n);" : " q = c : 1 from a;";
      TableCatalog x = fits(words[kind] + rest);
      Due.is("table(2, 0)", x.table(2, 0), kind);
      bad(1, "^" + words[kind] + "s" + rest);
      bad(1, "^" + words[kind].substring(1) + rest);
      bad(1, "^s" + words[kind] + rest);
      bad(1, "^" + (char) (words[kind].charAt(0) - 32) + words[kind].substring(1) + rest);
      bad(1, words[kind] + " q ^" + (kind == 0 ? "= c : 1 from a;" : "(x n);"));
    }
    bad(1, "^from q (x n);");
    bad(1, "^where q = c : 1 from a;");
    bad(1, "^len q = c : 1 from a;");
    bad(1, "^str (x n);");
    bad(1, "^;");
  }

  private static void behindFromAreOneToThree() {
    Due.by("I: the NAMES behind from are 1 to 3 unlike TABLES");
    bad(1, "view v = c : 1 from ^;");
    bad(1, "view v = c : 1 from ^where 1 < 2;");
    TableCatalog x = fits("table q (x n);");
    Due.made(x, "table r (x n);", 3);
    Due.made(x, "view u = c : 1 from q;", 4);
    Due.made(x, "view v = c : 1 from b, q;", 5);
    Due.made(x, "view w = c : 1 from q, a, b;", 6);
    Due.bad(x, 1, "view y = c : 1 from q, a, b, ^r;");
    for (int t = 4; t <= 6; t++) {
      Due.is("table(t, 2)", x.table(t, 2), t - 3);
    }
    int[][] behind = {{2, -1, -1}, {1, 2, -1}, {2, 0, 1}};
    for (int t = 4; t <= 6; t++) {
      for (int i = 0; i < 3; i++) {
        Due.is("table(" + t + ", " + (3 + i) + ")", x.table(t, 3 + i), behind[t - 4][i]);
      }
    }
    Due.bad(x, 4, "view y = c : 1 from a, ^a;");
    Due.bad(x, 4, "view y = c : 1 from a, b, ^a;");
    Due.bad(x, 4, "view y = c : 1 from a, b, ^b;");
  }

  private static void theWhereMayBeMissing() {
    Due.by("I: and perhaps where FORMULA SIGN FORMULA");
    fits("view v = c : 1 from a;");
    fits("view v = c : 1 from a where a.n < 1;");
    bad(1, "view v = c : 1 from a where^");
    bad(1, "view v = c : 1 from a where ^;");
    bad(1, "view v = c : 1 from a where 1 ^;");
    bad(1, "view v = c : 1 from a where 1 < ^;");
    bad(1, "view v = c : 1 from a where ^< 1;");
    bad(1, "view v = c : 1 from a where 1 < 1 ^= 1;");
    bad(1, "view v = c : 1 from a where 1 < 1 ^where 1 < 1;");
    bad(1, "view v = c : 1 from a where 1 < 1^, b;");
    bad(1, "view v = c : 1 ^where 1 < 1 from a;");
    bad(1, "table q (x n) ^where 1 < 1;");
  }

  private static void theSignIsOneOfTwo() {
    Due.by("I: a SIGN being < or =");
    String head = "view v = c : 1 from a where 1";
    for (int sign = 0; sign < 256; sign++) {
      String text = head + (char) sign + "2;";
      if (sign == '<' || sign == '=') {
        fits(text);
      } else if (!isBlank(sign) && "+-&0123456789".indexOf(sign) < 0) {
        Due.bad(Due.two(), text, 1, head.length());
      }
    }
    bad(1, head + "+2^;");
    bad(1, head + " ^2;");
    bad(1, head + "<^<2;");
    bad(1, head + "<^=2;");
    bad(1, head + "=^=2;");
    bad(1, head + "^>=2;");
  }

  private static void upToFiveMoreTerms() {
    Due.by("I: TERM, or up to 5 more");
    String[] formulas = {"1", "1+2", "1+2-3", "1+2-3+4", "1+2-3+4-5", "1+2-3+4-5+6"};
    for (String formula : formulas) {
      fits("view v = c : " + formula + ", d : " + formula + " from a where " + formula + " < " + formula + ";");
      fits("view v = c : len(str(" + formula + ")) + " + formula.substring(0, Math.min(9, formula.length())) + " from a;");
    }
    String most = formulas[5];
    bad(1, "view v = c : " + most + "^+7 from a;");
    bad(1, "view v = c : " + most + "^-7 from a;");
    bad(1, "view v = c : " + most + "^&7 from a;");
    bad(1, "view v = c : 1, d : " + most + "^+7 from a;");
    bad(1, "view v = c : str(" + most + "^+7) from a;");
    bad(1, "view v = c : len(str(1) & str(" + most + "^+7)) from a;");
    bad(1, "view v = c : 1 from a where " + most + "^+7 < 1;");
    bad(1, "view v = c : 1 from a where 1 < " + most + "^+7;");
    // those in a bracket are counted by themselves
    fits("view v = c : 1+2+3+4+5+len(str(" + most + ")&''&''&''&''&'') from a;");
    bad(1, "view v = c : 1+2+3+4+5+len(str(" + most + "))^+7 from a;");
  }

  private static void moreTermsBehindThreeSigns() {
    Due.by("I: with + , - or & ahead of each");
    String head = "view v = c : a.n";
    for (int sign = 0; sign < 256; sign++) {
      String text = head + (char) sign + "'' from a;";
      if (sign == '+' || sign == '-' || sign == '&') {
        Due.bad(Due.two(), text, 3, head.length());
      } else if (!isBlank(sign) && !isLetter(sign) && sign != ',') {
        Due.bad(Due.two(), text, 1, head.length());
      }
    }
    fits(head + " + a.n from a;");
    fits(head + " - a.n from a;");
    fits("view v = c : a.t & a.t from a;");
    bad(1, head + ",^'' from a;");
    bad(1, head + " ^'' from a;");
    bad(1, head + " + ^+ 1 from a;");
    bad(1, "view v = c : ^+ 1 from a;");
    bad(1, "view v = c : ^- 1 from a;");
    bad(1, head + " + ^from a;");
  }

  private static void aTermIsAColumn() {
    Due.by("I: A TERM: NAME . NAME, a COLUMN of a TABLE behind from");
    TableCatalog x = fits("view v = c : b.d, e : a.t from a, b;");
    Due.is("type(2, 0)", x.type(2, 0), 'd');
    Due.is("type(2, 1)", x.type(2, 1), 't');
    Due.found(x, "from(2, 0, 0)", x.from(2, 0, 0), 10);
    bad(1, "view v = c : a ^from a;");
    bad(1, "view v = c : a^: 1 from a;");
    bad(1, "view v = c : a.^from a;");
    bad(1, "view v = c : a^,n from a;");
    bad(1, "view v = c : a.n^.n from a;");
    bad(1, "view v = c : a.^1 from a;");
    bad(1, "view v = c : 1^.n from a;");
    bad(1, "view v = c : ^(a.n) from a;");
    bad(2, "view v = c : ^b.n from a;");
    bad(2, "view v = c : a.^x from a;");
    bad(2, "view v = c : a.^a from a;");
    bad(2, "view v = c : ^n.n from a;");
  }

  private static void oneToFourDigits() {
    Due.by("I: digits (1 to 4), an n");
    for (String digits : new String[] {"0", "9", "00", "10", "999", "0000", "9999", "1234"}) {
      TableCatalog x = fits("view v = c : " + digits + " from a where " + digits + " < " + digits + ";");
      Due.is("type of " + digits, x.type(2, 0), 'n');
    }
    bad(1, "view v = c : 1234^5 from a;");
    bad(1, "view v = c : 0000^0 from a;");
    bad(1, "view v = c : 9999^99999999 from a;");
    bad(1, "view v = c : 1 from a where 1234^5 < 1;");
    bad(1, "view v = c : str(1234^5) from a;");
    bad(1, "view v = c : 12 ^34 from a;");
    bad(1, "view v = c : 12^/ from a;");
    bad(1, "view v = c : 12^: from a;");
    bad(1, "view v = c : ^/12 from a;");
    bad(1, "view v = c : ^:12 from a;");
    bad(1, "view v = c : 1^.5 from a;");
  }

  private static void textsOfLettersAndBlanks() {
    Due.by("I: ' letters a .. z and 32 ' (perhaps none), a t");
    for (int sign = 0; sign < 256; sign++) {
      String text = "view v = c : 'p" + (char) sign + "q' from a;";
      if (isLetter(sign) || sign == 32) {
        TableCatalog x = fits(text);
        Due.is("type of a text", x.type(2, 0), 't');
      } else {
        // a second ' ends it, and the q behind it is no from
        Due.bad(Due.two(), text, 1, sign == '\'' ? 16 : 15);
      }
    }
    fits("view v = c : '' from a;");
    fits("view v = c : ' ' from a;");
    fits("view v = c : 'from view where table copy len str abcdefghijklmnop' from a;");
    bad(1, "view v = c : '^");
    bad(1, "view v = c : 'abc^");
    bad(1, "view v = c : 'abc from a where ^=");
    bad(1, "view v = c : '' ^'' from a;");
  }

  private static void bracketsBehindLenAndStr() {
    Due.by("I: len ( FORMULA ) ; str ( FORMULA )");
    fits("view v = c : len('') , d : str(1) from a;");
    for (String word : new String[] {"len", "str"}) {
      bad(1, "view v = c : " + word + " ^1 from a;");
      bad(1, "view v = c : " + word + " ^'' from a;");
      bad(1, "view v = c : " + word + " ^from a;");
      bad(1, "view v = c : " + word + " ^[1) from a;");
      bad(1, "view v = c : " + word + "(^) from a;");
      bad(1, "view v = c : " + word + "(a.n ^from a;");
      bad(1, "view v = c : " + word + "(a.n^] from a;");
      bad(1, "view v = c : " + word + "(a.n^, a.n) from a;");
      bad(1, "view v = c : " + word + "(a.n)^) from a;");
      bad(1, "view v = c : " + word + "(^(a.n)) from a;");
      bad(1, "view v = c : " + word + "(a.n ^< a.n) from a;");
    }
  }

  private static void threeBracketsOpenAtOnce() {
    Due.by("I: such brackets being at most 3 open at once");
    fits("view v = c : len(str(len(''))) from a where str(len(str(1))) = str(len(str(2)));");
    fits("view v = c : len(str(1)) + len(str(2)) + len(str(len('') + len(''))) + len('') from a;");
    fits("view v = c : len(str(len('')+1) & str(len(''))) , d : len(str(len(''))) from a;");
    bad(1, "view v = c : len(str(len(str^(1)))) from a;");
    bad(1, "view v = c : str(len(str(len^('')))) from a;");
    bad(1, "view v = c : 1 from a where len(str(len(str^(1)))) < 1;");
    bad(1, "view v = c : 1 from a where 1 < len(str(len(str^(1))));");
    bad(1, "view v = c : len(str(len('') + len('' & str^(1)))) from a;");
  }

  private static void typesOfTwoTerms() {
    Due.by("I: n + n, n - n are n; d + n, d - n are d; d - d is n; t & t is t");
    String fit = "n+n=n n-n=n d+n=d d-n=d d-d=n t&t=t ";
    for (char left : "ntd".toCharArray()) {
      for (char sign : "+-&".toCharArray()) {
        for (char right : "ntd".toCharArray()) {
          int at = fit.indexOf("" + left + sign + right + "=");
          if (at < 0) {
            bad(3, "view v = c : a." + left + "^" + sign + "b." + right + " from a, b;");
          } else {
            TableCatalog x = fits("view v = c : a." + left + sign + "b." + right + " from a, b;");
            Due.is("type of " + left + sign + right, x.type(2, 0), fit.charAt(at + 4));
          }
        }
      }
    }
    // digits are an n, and what stands in ' ' a t, likewise
    Due.is("d + 1", fits("view v = c : a.d + 1 from a;").type(2, 0), 'd');
    Due.is("t & ''", fits("view v = c : a.t & '' from a;").type(2, 0), 't');
    bad(3, "view v = c : 1 ^+ a.d from a;");
    bad(3, "view v = c : a.d ^- '' from a;");
  }

  private static void fromTheLeftOn() {
    Due.by("I: from the left on");
    Due.is("d - d + n", fits("view v = c : a.d - a.d + a.n from a;").type(2, 0), 'n');
    Due.is("d + n - d", fits("view v = c : a.d + a.n - a.d from a;").type(2, 0), 'n');
    Due.is("d - n - d + n", fits("view v = c : a.d - a.n - a.d + a.n from a;").type(2, 0), 'n');
    bad(3, "view v = c : a.d - a.d ^- a.d from a;");
    bad(3, "view v = c : a.n ^+ a.d - a.d from a;");
    bad(3, "view v = c : a.n + a.n ^& a.t from a;");
    bad(3, "view v = c : a.d - a.d + 1 + 1 + 1 ^+ a.d from a;");
  }

  private static void lenIsOfAText() {
    Due.by("I: len of a t is n");
    Due.is("len(t)", fits("view v = c : len(a.t) from a;").type(2, 0), 'n');
    Due.is("len(t & t)", fits("view v = c : len(a.t & '') from a;").type(2, 0), 'n');
    bad(3, "view v = c : ^len(a.n) from a;");
    bad(3, "view v = c : ^len(a.d) from a;");
    bad(3, "view v = c : ^len(7) from a;");
    bad(3, "view v = c : 1 from a where 1 < ^len(len(''));");
  }

  private static void strIsOfANumber() {
    Due.by("I: str of an n is t");
    Due.is("str(n)", fits("view v = c : str(a.n) from a;").type(2, 0), 't');
    Due.is("str(d - d)", fits("view v = c : str(a.d - a.d) from a;").type(2, 0), 't');
    bad(3, "view v = c : ^str(a.t) from a;");
    bad(3, "view v = c : ^str(a.d) from a;");
    bad(3, "view v = c : ^str('') from a;");
    bad(3, "view v = c : 1 from a where '' < ^str(str(1));");
  }

  private static void bothSidesOfASignAreAlike() {
    Due.by("I: both sides of a SIGN are alike");
    for (char left : "ntd".toCharArray()) {
      for (char sign : "<=".toCharArray()) {
        for (char right : "ntd".toCharArray()) {
          String head = "view v = c : 1 from a, b where a." + left;
          if (left == right) {
            fits(head + sign + "b." + right + ";");
          } else {
            bad(3, head + "^" + sign + "b." + right + ";");
          }
        }
      }
    }
    fits("view v = c : 1 from a where a.d - a.d < len(a.t);");
    bad(3, "view v = c : 1 from a where a.d - a.d ^< a.d;");
    bad(3, "view v = c : 1 from a where a.d ^= a.d - a.d;");
  }
}
