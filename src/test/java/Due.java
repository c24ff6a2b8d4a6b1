/** What the project's tests share: text on the tape, and counting of answers that are not due. */
final class Due {
  private static int wrong = 0;
  private static int looked = 0;
  private static String sentence = "";

  /** The document's sentence that the answers from here on are due by. */
  static void by(String words) {
    sentence = "[" + words + "] ";
  }

  static void is(String call, long got, long want) {
    looked++;
    if (got != want) {
      wrong++;
      if (wrong <= 30) {
        System.out.println(sentence + call + " answered " + got + ", due is " + want);
      }
    }
  }

  static void is(String call, boolean got, boolean want) {
    is(call, got ? 1 : 0, want ? 1 : 0);
  }

  /** Feeds the first twenty signs of a text, blanks behind it if it has not so many. */
  static int feed(TableCatalog x, String text) {
    int[] n = new int[5];
    for (int k = 0; k < 20; k++) {
      int sign = k < text.length() ? text.charAt(k) & 255 : 32;
      n[k / 4] = n[k / 4] << 8 | sign;
    }
    return x.feed(n[0], n[1], n[2], n[3], n[4]);
  }

  /** Puts a text of at most 400 signs on the tape, whatever stood there. */
  static void put(TableCatalog x, String text) {
    x.end(0);
    // the tape's last twenty bytes can only be fed whole, so every step is checked
    for (int i = 0; i < text.length(); i += 20) {
      is("feed of '" + text + "'", feed(x, text.substring(i)), i + 20);
    }
    is("end of '" + text + "'", x.end(text.length()), true);
  }

  /** An object with the tables a and b, the columns n, t and d of each named as their types. */
  static TableCatalog two() {
    TableCatalog x = new TableCatalog();
    made(x, "table a (n n, t t, d d);", 0);
    made(x, "table b (n n, t t, d d);", 1);
    return x;
  }

  static int act(TableCatalog x, String text) {
    put(x, text);
    return x.act();
  }

  static int named(TableCatalog x, String text) {
    put(x, text);
    return x.named();
  }

  /** A statement that is taken as the table t. */
  static void made(TableCatalog x, String text, int t) {
    is("act '" + text + "'", act(x, text), t);
    is("fault(0) of '" + text + "'", x.fault(0), 0);
    is("fault(1) of '" + text + "'", x.fault(1), -1);
  }

  /** A statement that is refused with a fault at a place. */
  static void bad(TableCatalog x, String text, int fault, int place) {
    is("act '" + text + "'", act(x, text), -1);
    is("fault(0) of '" + text + "'", x.fault(0), fault);
    is("fault(1) of '" + text + "'", x.fault(1), place);
  }

  /** A statement, refused with a fault at the place of the mark ^, which is not of the text. */
  static void bad(TableCatalog x, int fault, String marked) {
    int place = marked.indexOf('^');
    bad(x, marked.substring(0, place) + marked.substring(place + 1), fault, place);
  }

  /** What was found is these and no more. */
  static void found(TableCatalog x, String call, int count, int... want) {
    is(call, count, want.length);
    for (int i = 0; i < want.length; i++) {
      is(call + " found(" + i + ")", x.found(i), want[i]);
    }
    is(call + " found(" + want.length + ")", x.found(want.length), -1);
  }

  static void close() {
    System.out.println(looked + " answers looked at, " + wrong + " not as due");
    if (wrong != 0 || looked == 0) {
      System.exit(1);
    }
  }

  private Due() {
  }
}
