/** Promises 1 to 6: a new object, the tape, statements and their faults, names. */
public final class StatementsTest {
  public static void main(String[] args) {
    newObject();
    tape();
    sources();
    selects();
    grammarOfSources();
    grammarOfSelects();
    grammarOfTerms();
    cutShort();
    tooMuch();
    fourthBracket();
    missingNames();
    wrongTypes();
    repeatedNames();
    firstOfSeveral();
    full();
    names();
    Due.close();
  }

  private static void newObject() {
    TableCatalog x = new TableCatalog();
    for (int t = -1; t <= 16; t++) {
      Due.is("table of a new object", x.table(t, 0), -1);
    }
    Due.is("fault(0)", x.fault(0), 0);
    Due.is("fault(1)", x.fault(1), -1);
    Due.is("fault(2)", x.fault(2), -1);
    Due.is("fault(-1)", x.fault(-1), -1);
    Due.is("found(0)", x.found(0), -1);
    Due.found(x, "broken of a new object", x.broken());
    Due.found(x, "unused of a new object", x.unused(0));
    Due.is("named on an empty tape", x.named(), -1);
    Due.is("NONE", TableCatalog.NONE, -1);
  }

  private static void tape() {
    TableCatalog x = new TableCatalog();
    Due.is("end(1) of nothing", x.end(1), false);
    Due.is("end(-1)", x.end(-1), false);
    Due.is("end(0)", x.end(0), true);
    for (int n = 20; n <= 400; n += 20) {
      Due.is("feed", x.feed(1, 2, 3, 4, 5), n);
    }
    Due.is("feed beyond 400", x.feed(1, 2, 3, 4, 5), -1);
    Due.is("end(401)", x.end(401), false);
    Due.is("end(-1)", x.end(-1), false);
    Due.is("end(-2147483648)", x.end(Integer.MIN_VALUE), false);
    Due.is("end(400)", x.end(400), true);
    Due.is("end(381)", x.end(381), true);
    Due.is("end(382)", x.end(382), false);
    Due.is("feed beyond 400 by one", x.feed(1, 2, 3, 4, 5), -1);
    Due.is("end(380)", x.end(380), true);
    Due.is("feed to 400", x.feed(1, 2, 3, 4, 5), 400);
    x.act();
    Due.is("the tape went with act", x.end(1), false);
    x.feed(1, 2, 3, 4, 5);
    x.named();
    Due.is("the tape went with named", x.end(1), false);
    // the highest byte comes first, and a byte above 127 is a byte like others
    Due.is("feed", x.feed(0x7461626c, 0x65206128, 0x78206e29, 0x3bff2020, 0), 20);
    Due.is("end(14)", x.end(14), true);
    Due.is("act", x.act(), -1);
    Due.is("fault(1)", x.fault(1), 13);
    x.feed(0x7461626c, 0x65206128, 0x78206e29, 0x3bff2020, 0);
    x.end(13);
    Due.is("act", x.act(), 0);
    // pieces come behind one another
    x.feed('t' << 24 | 'a' << 16 | 'b' << 8 | 'l', 0, 0, 0, 0);
    x.end(4);
    Due.is("feed behind four", x.feed(0x65206220, 0x28782074, 0x293b2020, 0, 0), 24);
    x.end(14);
    Due.is("act", x.act(), 1);
  }

  private static void sources() {
    TableCatalog x = new TableCatalog();
    Due.made(x, "table a (x n, y t, z d);", 0);
    Due.made(x, "  \n table\nabcdefgh(n n,t t,d d,a n,b t,c d)  ; \n ", 1);
    Due.is("columns", x.table(1, 1), 6);
    Due.is("type(1, 5)", x.type(1, 5), 'd');
    Due.made(x, "table tables(views n);", 2);
    Due.bad(x, "", 1, 0);
    Due.bad(x, "   ", 1, 3);
    Due.is("fault(0) stays", x.fault(0), 1);
    Due.named(x, "a");
    Due.is("fault(0) is act's, not named's", x.fault(0), 1);
    Due.made(x, "table b (x n);", 3);
  }

  private static void selects() {
    TableCatalog x = new TableCatalog();
    Due.made(x, "table a (x n, y t, z d);", 0);
    Due.made(x, "table b (x n, y t, z d);", 1);
    Due.made(x, "view c=v:1from a;", 2);
    Due.made(x, "copy d = n : a.x + 1 - 20 + 300 - 4000 + len('q r') , t : '' & str(a.x) & a.y, d : a.z + 1 - a.x, "
        + "e : a.z - b.z from a , b , c where len(a . y) < 07 ;", 3);
    Due.is("type(3, 0)", x.type(3, 0), 'n');
    Due.is("type(3, 1)", x.type(3, 1), 't');
    Due.is("type(3, 2)", x.type(3, 2), 'd');
    Due.is("type(3, 3)", x.type(3, 3), 'n');
    Due.made(x, "view e = a : len(str(len(d.t))) from d where str(1)=' ';", 4);
    Due.made(x, "view f = a : a.z from a where a.z<a.z+1;", 5);
    Due.made(x, "view g = a:1,b:1,c:1,d:1,e:1,f:1 from a;", 6);
    // a table that nothing uses, and one named as its column
    Due.made(x, "view h = h:a.x from b,a;", 7);
  }

  private static void grammarOfSources() {
    TableCatalog x = new TableCatalog();
    Due.bad(x, 1, "^tabl");
    Due.bad(x, 1, "^tablea (x n);");
    Due.bad(x, 1, "^Table a (x n);");
    Due.bad(x, 1, "^1 a (x n);");
    Due.bad(x, 1, "^cable a (x n);");
    Due.bad(x, 1, "^tabla a (x n);");
    Due.bad(x, 1, "^from a (x n);");
    Due.bad(x, 1, "^tableabcdefg a (x n);");
    Due.bad(x, 1, "table^");
    Due.bad(x, 1, "table ^");
    Due.bad(x, 1, "table ^(x n);");
    Due.bad(x, 1, "table ^from (x n);");
    Due.bad(x, 1, "table ^where (x n);");
    Due.bad(x, 1, "table ^len (x n);");
    Due.bad(x, 1, "table ^str (x n);");
    Due.bad(x, 1, "table ^copy (x n);");
    Due.bad(x, 1, "table ^table (x n);");
    Due.bad(x, 1, "table ^12 (x n);");
    Due.bad(x, 1, "table abcdefgh^ijk (x n);");
    Due.bad(x, 1, "table a^1 (x n);");
    Due.bad(x, 1, "table a^B (x n);");
    Due.bad(x, 1, "table a^\t(x n);");
    Due.bad(x, 1, "table a ^b (x n);");
    Due.bad(x, 1, "table a (^);");
    Due.bad(x, 1, "table a (^, x n);");
    Due.bad(x, 1, "table a (^view n);");
    Due.bad(x, 1, "table a (x^);");
    Due.bad(x, 1, "table a (x ^x);");
    Due.bad(x, 1, "table a (x ^nt);");
    Due.bad(x, 1, "table a (x ^nnnnnnnnnn);");
    Due.bad(x, 1, "table a (x ^view);");
    Due.bad(x, 1, "table a (x n ^t);");
    Due.bad(x, 1, "table a (x n^1);");
    Due.bad(x, 1, "table a (x n,^);");
    Due.bad(x, 1, "table a (x n,abcdefgh^i n);");
    Due.bad(x, 1, "table a (x n)^");
    Due.bad(x, 1, "table a (x n) \n^");
    Due.bad(x, 1, "table a (x n) ^table b (x n);");
    Due.bad(x, 1, "table a (x n);^;");
    Due.bad(x, 1, "table a (x n); \n ^x");
    Due.bad(x, 1, "table a ^= c : 1 from b;");
    Due.is("no table came of it", x.table(0, 0), -1);
  }

  private static void grammarOfSelects() {
    TableCatalog x = new TableCatalog();
    Due.made(x, "table a (x n);", 0);
    Due.bad(x, 1, "view v ^(x n);");
    Due.bad(x, 1, "view v = ^: 1 from a;");
    Due.bad(x, 1, "view v = c ^1 from a;");
    Due.bad(x, 1, "view v = c : ^from a;");
    Due.bad(x, 1, "view v = c : 1 ^a;");
    Due.bad(x, 1, "view v = c : 1 ^abcdefghij;");
    Due.bad(x, 1, "view v = c : 1 ^fromabcdef a;");
    Due.bad(x, 1, "view v = c : 1 ^where 1 < 1;");
    Due.bad(x, 1, "view v = c : 1, ^from a;");
    Due.bad(x, 1, "view v = c : 1, d ^, from a;");
    Due.bad(x, 1, "view v = c : 1 from ^;");
    Due.bad(x, 1, "view v = c : 1 from ^where;");
    Due.bad(x, 1, "view v = c : 1 from abcdefgh^i;");
    Due.bad(x, 1, "view v = c : 1 from a ^b;");
    Due.bad(x, 1, "view v = c : 1 from a, ^;");
    Due.bad(x, 1, "view v = c : 1 from a ^from a;");
    Due.bad(x, 1, "view v = c : 1 from a where ^;");
    Due.bad(x, 1, "view v = c : 1 from a where 1 ^;");
    Due.bad(x, 1, "view v = c : 1 from a where 1 ^> 1;");
    Due.bad(x, 1, "view v = c : 1 from a where 1 < ^;");
    Due.bad(x, 1, "view v = c : 1 from a where 1 <^= 1;");
    Due.bad(x, 1, "view v = c : 1 from a where 1 < 1 ^< 1;");
    Due.bad(x, 1, "view v = c : 1 from a where 1 < 1 ^, b;");
    Due.bad(x, 1, "view v = c : 1 from a where 1 < 1^");
    Due.bad(x, 1, "view v = c : 1 from a^");
    Due.bad(x, 1, "copy ^view = c : 1 from a;");
    Due.bad(x, 1, "view^");
    // the place within a wrong place is never looked for: nothing but the grammar counts here
    Due.bad(x, 1, "view a = c : q.q + 'x' from a, a where ^;");
  }

  private static void grammarOfTerms() {
    TableCatalog x = new TableCatalog();
    Due.made(x, "table a (x n);", 0);
    Due.bad(x, 1, "view v = c : a ^from a;");
    Due.bad(x, 1, "view v = c : a . ^1 from a;");
    Due.bad(x, 1, "view v = c : a.x^.x from a;");
    Due.bad(x, 1, "view v = c : a.^len from a;");
    Due.bad(x, 1, "view v = c : ^view.x from a;");
    Due.bad(x, 1, "view v = c : abcdefgh^i.x from a;");
    Due.bad(x, 1, "view v = c : a.abcdefgh^i from a;");
    Due.bad(x, 1, "view v = c : lenlenle^n ( 1 ) from a;");
    Due.bad(x, 1, "view v = c : ben ^( 'a' ) from a;");
    Due.bad(x, 1, "view v = c : zaz.zaz ^z");
    Due.bad(x, 1, "view v = c : 98 ^09 from a;");
    Due.bad(x, 1, "view v = c : 9890^9 from a;");
    Due.bad(x, 1, "view v = c : len ^. x from a;");
    Due.bad(x, 1, "view v = c : len ^'a' from a;");
    Due.bad(x, 1, "view v = c : len (^) from a;");
    Due.bad(x, 1, "view v = c : len ('a' ^from a;");
    Due.bad(x, 1, "view v = c : len ('a'^, 'b') from a;");
    Due.bad(x, 1, "view v = c : ^(1) from a;");
    Due.bad(x, 1, "view v = c : 1 + ^+ 1 from a;");
    Due.bad(x, 1, "view v = c : ^- 1 from a;");
    Due.bad(x, 1, "view v = c : 1 ^* 1 from a;");
    Due.bad(x, 1, "view v = c : 1 ^) from a;");
    Due.bad(x, 1, "view v = c : 1 ^2 from a;");
    Due.bad(x, 1, "view v = c : 1 ^'a' from a;");
    Due.bad(x, 1, "view v = c : 1^a from a;");
    Due.bad(x, 1, "view v = c : 1234^5 from a;");
    Due.bad(x, 1, "view v = c : 0000^00 from a;");
    Due.bad(x, 1, "view v = c : 'a^A' from a;");
    Due.bad(x, 1, "view v = c : 'a^\n' from a;");
    Due.bad(x, 1, "view v = c : 'ab^12' from a;");
    Due.bad(x, 1, "view v = c : 'a^; from a;");
    Due.bad(x, 1, "view v = c : '^");
    Due.bad(x, 1, "view v = c : 'a from a^");
    Due.bad(x, 1, "view v = ^'a' : 1 from a;");
    Due.made(x, "view v = c : 'abcdefghijklmnopqrstuvwxyz from view' from a;", 1);
  }

  /** Each beginning of a statement, with the statement's end at once or none at all. */
  private static void cutShort() {
    String[] whole = {"table b ( x n , y t , z d ) ;",
      "view v = c : a . x + 1 , d : len ( 'ab' & str ( 9 ) ) - 90 from a , b where a . x < 1 + len ( '' ) ;",
      "copy v = c : a . x from a where a . x = 1 ;"};
    for (String text : whole) {
      for (int stop = text.indexOf(' '); stop >= 0; stop = text.indexOf(' ', stop + 1)) {
        String head = text.substring(0, stop);
        boolean fits = head.endsWith(")") && head.startsWith("table") || head.endsWith("from a") || head.endsWith("from a , b")
            || head.endsWith("< 1") || head.endsWith("= 1") || head.endsWith("( '' )") && head.contains("where");
        TableCatalog x = new TableCatalog();
        Due.made(x, "table a (x n);", 0);
        Due.bad(x, 1, head + "^");
        Due.bad(x, 1, head + " ^?");
        if (fits) {
          Due.is("act " + head + ";", Due.act(x, head + ";"), head.contains(", b") ? -1 : 1);
          Due.is("fault(0)", x.fault(0), head.contains(", b") ? 2 : 0);
        } else {
          Due.bad(x, 1, head + "^;");
        }
      }
    }
  }

  private static void tooMuch() {
    TableCatalog x = new TableCatalog();
    Due.made(x, "table a (x n);", 0);
    Due.bad(x, 1, "table b (b n,c n,d n,e n,f n,g n, ^h n);");
    Due.bad(x, 1, "table b (b n,c n,d n,e n,f n,g n, ^abcdefghij n);");
    Due.bad(x, 1, "table b (b n,c n,d n,e n,f n,g n ^h n);");
    Due.bad(x, 1, "view v = a:1,b:1,c:1,d:1,e:1,f:1, ^g:1 from a;");
    Due.bad(x, 1, "view v = a:1,b:1,c:1,d:1,e:1,f:1,^");
    Due.bad(x, 1, "table b (b n,c n,d n,e n,f n,g n,^;");
    Due.bad(x, 1, "table b (b n,c n,d n,e n,f n,g n,^);");
    Due.bad(x, 1, "view v = a:1,b:1,c:1,d:1,e:1,f:1,^;");
    Due.bad(x, 1, "view v = a:1,b:1,c:1,d:1,e:1,f:1,^from a;");
    Due.bad(x, 1, "view v = a:1 from a, b, c,^;");
    Due.bad(x, 1, "view v = a:1 from a, b, c, ^d;");
    Due.bad(x, 1, "view v = a:1 from a, b, c, ^abcdefghij;");
    Due.bad(x, 1, "view v = a:1+1+1+1+1+1 ^+1 from a;");
    Due.bad(x, 1, "view v = a:1+1+1+1+1+1 ^-1 from a;");
    Due.bad(x, 1, "view v = a:1+1+1+1+1+1 ^&1 from a;");
    Due.bad(x, 1, "view v = a:len(''&''&''&''&''&''^&'') from a;");
    Due.bad(x, 1, "view v = a:1 from a where 1<1+1+1+1+1+1^+1;");
    Due.made(x, "view v = a:1+1+1+1+1+len(''&''&''&''&''&str(1+1+1+1+1+len(''))) from a where 1+1+1+1+1+1<1+1+1+1+1+1;", 1);
  }

  /** A 4th bracket is the sign itself, not the word ahead of it; nothing else fits there, either. */
  private static void fourthBracket() {
    TableCatalog x = new TableCatalog();
    Due.made(x, "table a (x n);", 0);
    Due.bad(x, 1, "view v = a:len(str(len(str^(1)))) from a;");
    Due.bad(x, 1, "view v = a:str(len(str(len^('')))) from a;");
    Due.bad(x, 1, "view v = a:str(len(str(len \n  ^('')))) from a;");
    Due.bad(x, 1, "view v = a:len(str(len('' & str ^. x))) from a;");
    Due.bad(x, 1, "view v = a:len(str(len('' & str ^(1) & str(1)))) from a;");
    Due.bad(x, 1, "view v = a:1 from a where 1 < len(str(1 + len(str^(1))));");
    Due.bad(x, 1, "view v = a:len('') + len(str(1) & str(len(str^(1)))) from a;");
    // whatever stands there, whole
    Due.bad(x, 1, "view v = c : str(len(str(len^");
    Due.bad(x, 1, "view v = c : str(len(str(len  ^");
    Due.bad(x, 1, "view v = c : str(len(str(len^\0\0\0");
    Due.bad(x, 1, "view v = c : str(len(str(len ^abcdefghij");
    Due.bad(x, 1, "view v = c : str(len(str(len ^123456");
    Due.bad(x, 1, "view v = c : str(len(str(len ^'a");
    Due.bad(x, 1, "view v = c : str(len(str(len^)))) from a;");
    Due.bad(x, 1, "view v = c : str(len(str(len ^len (");
    // without a word ahead of it a bracket is no TERM at all
    Due.bad(x, 1, "view v = c : len(str(len(^(");
    // a word that only begins so is a NAME
    Due.bad(x, 1, "view v = c : len(str(len(strs^(1)))) from a;");
    // three at once are fine, and brackets that were closed are not open
    Due.made(x, "view v = a:len(str(len(''))) from a;", 1);
    Due.made(x, "view w = a:len(str(len(''))) + len(str(len('')+len(''))) from a;", 2);
  }

  private static void missingNames() {
    TableCatalog x = new TableCatalog();
    Due.made(x, "table a (x n, y t);", 0);
    Due.made(x, "table b (x n);", 1);
    Due.bad(x, 2, "view v = c : 1 from ^v;");
    Due.bad(x, 2, "view v = c : 1 from a, b, ^c;");
    Due.bad(x, 2, "view v = c : ^b.x from a;");
    Due.bad(x, 2, "view v = c : ^b.x from a, q;");
    Due.bad(x, 2, "view v = c : a . ^q from a;");
    Due.bad(x, 2, "view v = c : len(str(a.^q)) from a;");
    Due.bad(x, 2, "view v = c : a.x from a where a.x < a.^z;");
    Due.bad(x, 2, "view v = c : a.x from a where ^v.x < a.z;");
    // no column is looked at of what is not there behind from
    Due.bad(x, 2, "view v = c : q.x + q.y - 'a' & q.z from ^q;");
    // what is not there fits everywhere
    Due.bad(x, 2, "view v = c : q.x & 1 + 'a' - a.y from a, ^q;");
    Due.bad(x, 2, "view v = c : len(q.x), d : str(q.x) from ^q where q.x < 'a';");
    Due.bad(x, 2, "view v = c : len(q.x) + len(str(q.y)) from ^q;");
    // but len is a number and str a text
    Due.bad(x, 3, "view v = c : len(q.x) ^+ 'a' from q;");
    Due.bad(x, 3, "view v = c : 'a' ^& len(q.x) from q;");
    Due.bad(x, 3, "view v = c : str(q.x) ^- 1 from q;");
    Due.bad(x, 3, "view v = c : 1 from a where len(a.y) ^< str(a.x);");
    Due.bad(x, 2, "view v = c : 1 from a where a.^q < 'b';");
  }

  private static void wrongTypes() {
    TableCatalog x = new TableCatalog();
    Due.made(x, "table a (n n, t t, d d);", 0);
    char[] kinds = {'n', 't', 'd'};
    String fits = "n+n d+n n-n d-n d-d t&t ";
    for (char left : kinds) {
      for (char sign : new char[] {'+', '-', '&'}) {
        for (char right : kinds) {
          TableCatalog y = new TableCatalog();
          Due.made(y, "table a (n n, t t, d d);", 0);
          String text = "view v = c : a." + left + "^" + sign + "a." + right + " from a;";
          if (fits.indexOf(left + "" + sign + right + " ") >= 0) {
            Due.made(y, text.replace("^", ""), 1);
            int want = sign == '&' ? 't' : left == 'd' && right == 'd' ? 'n' : left;
            Due.is("type of " + text, y.type(1, 0), want);
          } else {
            Due.bad(y, 3, text);
          }
        }
      }
    }
    for (char left : kinds) {
      for (char right : kinds) {
        TableCatalog y = new TableCatalog();
        Due.made(y, "table a (n n, t t, d d);", 0);
        String text = "view v = c : 1 from a where a." + left + " ^" + (left < 'h' ? "<" : "=") + " a." + right + ";";
        if (left == right) {
          Due.made(y, text.replace("^", ""), 1);
        } else {
          Due.bad(y, 3, text);
        }
      }
    }
    Due.bad(x, 3, "view v = c : ^len(1) from a;");
    Due.bad(x, 3, "view v = c : ^len(a.d) from a;");
    Due.bad(x, 3, "view v = c : ^str('') from a;");
    Due.bad(x, 3, "view v = c : ^str(a.d) from a;");
    // the outer bracket is ahead of the inner one
    Due.bad(x, 3, "view v = c : ^len(len(1)) from a;");
    Due.bad(x, 3, "view v = c : len(^str('')) from a;");
    Due.bad(x, 3, "view v = c : ^str(str('')) from a;");
    // what can't be fits: the first sign alone is at fault
    Due.bad(x, 3, "view v = c : len(1 ^+ 'a') & 'b' from a;");
    Due.bad(x, 3, "view v = c : a.n + 1 - 2 ^& 'a' & 'b' from a;");
    // from the left on
    Due.bad(x, 3, "view v = c : 1 ^+ a.d - a.d from a;");
    Due.bad(x, 3, "view v = c : a.d - a.d ^- a.d from a;");
    Due.made(x, "view v = c : a.d - a.d + 1, d : a.d + 1 - a.d from a;", 1);
    Due.is("type(1, 1)", x.type(1, 1), 'n');
  }

  private static void repeatedNames() {
    TableCatalog x = new TableCatalog();
    Due.made(x, "table a (x n);", 0);
    Due.made(x, "table b (x n);", 1);
    Due.bad(x, 4, "table ^a (x n);");
    Due.bad(x, 4, "view ^b = c : 1 from a;");
    Due.bad(x, 4, "copy ^b = c : 1 from b;");
    Due.bad(x, 4, "table c (x n, y n, ^x t);");
    Due.bad(x, 4, "table c (x n, ^x n, x t);");
    Due.bad(x, 4, "view c = x : 1, ^x : 2 from a;");
    Due.bad(x, 4, "view c = x : 1 from a, b, ^a;");
    Due.bad(x, 4, "view c = x : 1 from a, ^a, b;");
    Due.made(x, "table abcdefgh (x n);", 2);
    Due.bad(x, 4, "table ^abcdefgh (x n);");
    Due.made(x, "table abcdefgi (x n);", 3);
    // a name that is gone is free
    Due.is("drop(1)", x.drop(1), 0);
    Due.bad(x, 2, "view c = x : 1 from ^b;");
    Due.made(x, "view b = x : 1 from a;", 4);
    Due.bad(x, 4, "table ^b (x n);");
  }

  private static void firstOfSeveral() {
    TableCatalog x = new TableCatalog();
    Due.made(x, "table a (x n, y t);", 0);
    Due.bad(x, 4, "view ^a = c : q.x + 'a' from b, b;");
    Due.bad(x, 2, "view v = c : ^q.x, c : 1 + 'a' from b, b;");
    Due.bad(x, 3, "view v = c : 1 ^+ 'a', c : q.x from b, b;");
    Due.bad(x, 4, "view v = c : 1, ^c : q.x from b, b;");
    Due.bad(x, 2, "view v = c : 1 from ^b, b;");
    Due.bad(x, 4, "view v = c : 1 from a, ^a, b where 1 < 'a';");
    Due.bad(x, 3, "view v = c : 1 from a where 1 ^< 'a' & a.y;");
    Due.bad(x, 2, "view v = c : 1 from a where a.^q < 'a' + 1;");
    Due.bad(x, 1, "view a = c : 1 + 'a', c : q.x from b, b^");
  }

  private static void full() {
    TableCatalog x = new TableCatalog();
    for (int t = 0; t < 16; t++) {
      Due.made(x, "table " + (char) ('a' + t) + " (x n);", t);
    }
    Due.bad(x, "  table q (x n);", 5, 0);
    Due.bad(x, "view q = c : a.x from a;", 5, 0);
    Due.bad(x, 4, "table ^a (x n);");
    Due.bad(x, 1, "table q (x n)^");
    Due.bad(x, 3, "view q = c : a.x ^+ '' from a;");
    Due.is("drop(0)", x.drop(0), 0);
    Due.is("drop(15)", x.drop(15), 0);
    Due.bad(x, "table q (x n);", 5, 0);
    Due.bad(x, 2, "view q = c : 1 from ^a;");
    Due.is("table(15, 0)", x.table(15, 0), -1);
    Due.is("table(16, 0)", x.table(16, 0), -1);
  }

  private static void names() {
    TableCatalog x = new TableCatalog();
    Due.made(x, "table a (x n);", 0);
    Due.made(x, "table abcdefgh (x n);", 1);
    Due.is("named a", Due.named(x, "a"), 0);
    Due.is("named with blanks", Due.named(x, " \n a\n "), 0);
    Due.is("named abcdefgh", Due.named(x, "abcdefgh"), 1);
    Due.is("named abcdefg", Due.named(x, "abcdefg"), -2);
    Due.is("named of nine letters", Due.named(x, "abcdefghi"), -1);
    Due.is("named x, a column", Due.named(x, "x"), -2);
    Due.is("named of nothing", Due.named(x, ""), -1);
    Due.is("named of blanks", Due.named(x, " \n"), -1);
    for (String word : new String[] {"view", "copy", "table", "from", "where", "len", "str"}) {
      Due.is("named " + word, Due.named(x, word), -1);
      Due.is("named " + word + "s", Due.named(x, word + "s"), -2);
    }
    Due.is("named A", Due.named(x, "A"), -1);
    Due.is("named a.", Due.named(x, "a."), -1);
    Due.is("named a a", Due.named(x, "a a"), -1);
    Due.is("named 1", Due.named(x, "1"), -1);
    Due.is("named of a tab", Due.named(x, "\ta"), -1);
    Due.is("drop(0)", x.drop(0), 0);
    Due.is("named a, gone", Due.named(x, "a"), -2);
  }
}
