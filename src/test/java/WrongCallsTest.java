import java.util.Random;

/** Any arguments in any state: no call throws, and the same calls give the same answers. */
public final class WrongCallsTest {
  private static final int[] ODD = {Integer.MIN_VALUE, Integer.MIN_VALUE + 1, -30001, -129, -8, -2, -1, 0, 1, 2, 3, 5, 6, 7,
    8, 9, 10, 15, 16, 17, 31, 32, 39, 40, 41, 63, 64, 100, 110, 116, 127, 128, 255, 399, 400, 401, 1000, 1001, 30000, 30001,
    Integer.MAX_VALUE - 1, Integer.MAX_VALUE};
  private static final String[] TEXTS = {"table a (x n, y t, z d);", "table b (x n);",
    "view v = c : a.x + 1, d : a.z - a.x, e : len(a.y) from a, b where a.x < b.x;", "copy w = c : v.c from v, a;",
    "copy u = c : w.c, d : 'x' from w;", "view a = : ;", "view q = c : a.y + 1 from a;"};

  public static void main(String[] args) {
    for (int seed = 0; seed < 1500; seed++) {
      Random random = new Random(seed);
      Random again = new Random(seed);
      TableCatalog x = new TableCatalog();
      TableCatalog y = new TableCatalog();
      for (int i = 0; i < 512; i++) {
        Due.is("seed " + seed + " call " + i, call(x, random), call(y, again));
      }
    }
    everyOddCall();
    anyBytes();
    Due.close();
  }

  private static int odd(Random random) {
    return random.nextInt(3) == 0 ? ODD[random.nextInt(ODD.length)] : random.nextInt(5);
  }

  private static long call(TableCatalog x, Random random) {
    int a = odd(random);
    int b = odd(random);
    int c = odd(random);
    switch (random.nextInt(26)) {
      case 0: return x.feed(a, b, c, odd(random), random.nextInt());
      case 1: return x.end(a) ? 1 : 0;
      case 2: return x.act();
      case 3: return x.fault(a);
      case 4: return x.named();
      case 5: return x.table(a, b);
      case 6: return x.type(a, b);
      case 7: return x.from(a, b, c);
      case 8: return x.touch(a, b);
      case 9: return x.asked(a, b);
      case 10: return x.found(a);
      case 11: return x.retype(a, b, c);
      case 12: return random.nextInt(9) == 0 ? x.drop(a) : 0;
      case 13: return random.nextInt(9) == 0 && x.freeze(a) ? 1 : 0;
      case 14: return x.today(a) ? 1 : 0;
      case 15: return x.fed(a, b, c) ? 1 : 0;
      case 16: return x.run(a) ? 1 : 0;
      case 17: return x.promise(a, b) ? 1 : 0;
      case 18: return x.broken();
      case 19: return x.late(a);
      case 20: return x.own(a, b) ? 1 : 0;
      case 21: return x.ask(a, b, c);
      case 22: return x.unused(a);
      case 23: return x.alike(a, b);
      default: return Due.act(x, TEXTS[random.nextInt(TEXTS.length)]);
    }
  }

  /** Every method with every pair of odd numbers, each on an object that has all kinds of tables. */
  private static void everyOddCall() {
    TableCatalog x = new TableCatalog();
    for (int t = 0; t < 5; t++) {
      Due.made(x, TEXTS[t], t);
    }
    x.freeze(3);
    for (int a : ODD) {
      x.end(a);
      x.fault(a);
      x.found(a);
      x.run(a);
      x.late(a);
      x.unused(a);
      for (int b : ODD) {
        x.table(a, b);
        x.type(a, b);
        x.touch(a, b);
        x.asked(a, b);
        x.promise(a, b);
        x.own(a, b);
        x.alike(a, b);
        for (int c : ODD) {
          x.from(a, b, c);
          x.fed(a, b, c);
          x.retype(a, b, c);
          x.ask(a, b, c);
        }
      }
    }
    for (int a : ODD) {
      if (a > 4 || a < 0) {
        Due.is("drop(" + a + ")", x.drop(a), -1);
        Due.is("freeze(" + a + ")", x.freeze(a), false);
      }
    }
    Due.is("the tables stand", x.table(4, 0), 2);
  }

  /** A full tape of each byte alone, and of one sign ahead of it. */
  private static void anyBytes() {
    for (int sign = 0; sign < 256; sign++) {
      StringBuilder text = new StringBuilder();
      for (int i = 0; i < 400; i++) {
        text.append((char) sign);
      }
      TableCatalog x = new TableCatalog();
      String all = text.toString();
      Due.bad(x, all, 1, sign == ' ' || sign == '\n' ? 400 : 0);
      Due.is("named of 400 times " + sign, Due.named(x, all), -1);
      for (String head : new String[] {"table ", "table a ( ", "view v = c : ", "view v = c : ' ", "view v = c : len ( "}) {
        Due.is("act of '" + head + "' and " + sign, Due.act(x, head + all.substring(head.length())), -1);
        Due.is("fault(0)", x.fault(0), 1);
      }
    }
  }
}
