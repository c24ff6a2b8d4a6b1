import java.util.ArrayList;
import java.util.LinkedHashSet;
import java.util.List;
import java.util.Random;
import java.util.Set;
import java.util.TreeSet;

/**
 * Random runs of calls, each answer beside that of a model: another program from the same
 * document, written as plainly as the Java library lets it be, with searches until nothing
 * changes where the program has one walk.
 */
public final class ModelTest {
  private static final String[] NAMES = {"a", "b", "c", "d", "e", "longname", "lens", "f", "g", "h", "viewer", "k", "m",
    "o", "p", "q", "r", "s"};

  public static void main(String[] args) {
    for (int seed = 1; seed <= 1500; seed++) {
      new Run(seed).calls(512);
    }
    Due.close();
  }

  /** One object and one model of it. */
  private static final class Run {
    private final Random random;
    private final TableCatalog x = new TableCatalog();
    private final Model m = new Model();
    private final String head;
    private final int spoil;

    Run(int seed) {
      random = new Random(seed);
      head = "seed " + seed + " ";
      spoil = 2 + seed % 5 * 4;
    }

    void calls(int count) {
      for (int i = 0; i < count; i++) {
        one(i);
      }
    }

    private void is(int i, String call, long got, long want) {
      Due.is(head + "call " + i + " " + call, got, want);
    }

    private void is(int i, String call, boolean got, boolean want) {
      Due.is(head + "call " + i + " " + call, got, want);
    }

    private int table() {
      return random.nextInt(20) == 0 ? random.nextInt(40) - 12 : random.nextInt(Math.max(m.tables.size() + 1, 2));
    }

    private int column() {
      return random.nextInt(9) == 0 ? random.nextInt(12) - 3 : random.nextInt(3);
    }

    private void found(int i) {
      for (int k = 0; k <= m.found.size(); k++) {
        is(i, "found(" + k + ")", x.found(k), k < m.found.size() ? m.found.get(k) : -1);
      }
    }

    private void one(int i) {
      int t = table();
      int c = column();
      switch (random.nextInt(24)) {
        case 0: case 1: case 2: case 3: {
          String text = statement();
          Due.put(x, text);
          is(i, "act " + text, x.act(), m.act(text));
          is(i, "fault(0) of " + text, x.fault(0), m.fault);
          is(i, "fault(1) of " + text, x.fault(1), m.place);
          break;
        }
        case 4: {
          String text = random.nextInt(3) == 0 ? newName() : " " + newName() + "\n";
          text = random.nextInt(5) == 0 ? spoiled(text) : text;
          Due.put(x, text);
          is(i, "named " + text, x.named(), m.named(text));
          break;
        }
        case 5: {
          for (int what = -1; what <= 10; what++) {
            is(i, "table(" + t + ", " + what + ")", x.table(t, what), m.table(t, what));
          }
          break;
        }
        case 6: is(i, "type(" + t + ", " + c + ")", x.type(t, c), m.type(t, c)); break;
        case 7: {
          int how = random.nextInt(4) - random.nextInt(2);
          is(i, "from(" + t + ", " + c + ", " + how + ")", x.from(t, c, how), m.from(t, c, how));
          found(i);
          break;
        }
        case 8: is(i, "touch(" + t + ", " + c + ")", x.touch(t, c), m.touch(t, c)); found(i); break;
        case 9: is(i, "asked(" + t + ", " + c + ")", x.asked(t, c), m.asked(t, c)); found(i); break;
        case 10: case 11: {
          int type = random.nextInt(9) == 0 ? random.nextInt(300) : "ntd".charAt(random.nextInt(3));
          is(i, "retype(" + t + ", " + c + ", " + type + ")", x.retype(t, c, type), m.retype(t, c, type));
          found(i);
          break;
        }
        case 12: if (random.nextInt(8) == 0) { is(i, "drop(" + t + ")", x.drop(t), m.drop(t)); } break;
        case 13: if (random.nextInt(8) == 0) { is(i, "freeze(" + t + ")", x.freeze(t), m.freeze(t)); } break;
        case 14: {
          int day = m.today + random.nextInt(6) - 1;
          is(i, "today(" + day + ")", x.today(day), m.setToday(day));
          break;
        }
        case 15: case 16: {
          int newest = m.today - random.nextInt(6) + random.nextInt(2);
          int oldest = newest - random.nextInt(9) + random.nextInt(2);
          is(i, "fed(" + t + ", " + oldest + ", " + newest + ")", x.fed(t, oldest, newest), m.fed(t, oldest, newest));
          break;
        }
        case 17: case 18: is(i, "run(" + t + ")", x.run(t), m.run(t)); break;
        case 19: {
          int lag = random.nextInt(9) == 0 ? random.nextInt(2000) - 500 : random.nextInt(12) - 1;
          is(i, "promise(" + t + ", " + lag + ")", x.promise(t, lag), m.promise(t, lag));
          break;
        }
        case 20: is(i, "broken()", x.broken(), m.broken()); found(i); break;
        case 21: {
          for (int u = 0; u < 16; u++) {
            is(i, "late(" + u + ")", x.late(u), m.late(u));
          }
          break;
        }
        case 22: {
          int user = random.nextInt(12) - 1;
          is(i, "own(" + t + ", " + user + ")", x.own(t, user), m.own(t, user));
          int bits = random.nextInt(8) - random.nextInt(2);
          is(i, "ask(" + user + ", " + t + ", " + bits + ")", x.ask(user, t, bits), m.ask(user, t, bits));
          break;
        }
        default: {
          int since = m.today - random.nextInt(9) + 1;
          is(i, "unused(" + since + ")", x.unused(since), m.unused(since));
          found(i);
          for (int u = 0; u < 16; u++) {
            is(i, "alike(" + t + ", " + u + ")", x.alike(t, u), m.alike(t, u));
          }
        }
      }
    }

    private String name() {
      return NAMES[random.nextInt(NAMES.length)];
    }

    /** Mostly a name that is free. */
    private String newName() {
      return random.nextInt(8) == 0 ? name() : "x" + (char) ('a' + random.nextInt(26));
    }

    private String blank() {
      int kind = random.nextInt(6);
      return kind < 3 ? "" : kind < 5 ? " " : "\n ";
    }

    private String statement() {
      String text = random.nextInt(4) == 0 || m.tables.isEmpty() ? source() : select();
      if (text.length() > 380) {
        return source();
      }
      return random.nextInt(spoil) == 0 ? spoiled(text) : text;
    }

    private String source() {
      StringBuilder text = new StringBuilder("table " + newName() + blank() + "(");
      int count = 1 + random.nextInt(3);
      for (int c = 0; c < count; c++) {
        text.append(blank()).append("xyz".charAt(random.nextInt(20) == 0 ? 0 : c)).append(' ')
            .append("ntd".charAt(random.nextInt(3))).append(blank()).append(c + 1 < count ? "," : ")");
      }
      return text.append(blank()).append(";").toString();
    }

    private List<Integer> behind() {
      List<Integer> list = new ArrayList<>();
      int count = 1 + random.nextInt(3);
      for (int i = 0; i < count; i++) {
        int t = random.nextInt(m.tables.size());
        if (m.tables.get(t) != null && (!list.contains(t) || random.nextInt(30) == 0)) {
          list.add(t);
        }
      }
      return list;
    }

    private String select() {
      List<Integer> list = behind();
      StringBuilder text = new StringBuilder(random.nextBoolean() ? "view " : "copy ");
      text.append(newName()).append(blank()).append("=");
      int count = 1 + random.nextInt(3);
      for (int c = 0; c < count; c++) {
        text.append(blank()).append("xyz".charAt(random.nextInt(20) == 0 ? 0 : c)).append(blank()).append(":")
            .append(formula(list, "ntd".charAt(random.nextInt(3)), 0)).append(blank()).append(c + 1 < count ? "," : " from ");
      }
      for (int i = 0; i < list.size(); i++) {
        text.append(i == 0 ? "" : ",").append(blank()).append(m.tables.get(list.get(i)).name);
      }
      if (list.isEmpty()) {
        text.append(name());
      }
      if (random.nextInt(3) == 0) {
        char type = "ntd".charAt(random.nextInt(3));
        text.append(" where ").append(formula(list, type, 0)).append(random.nextBoolean() ? "<" : "=")
            .append(formula(list, type, 0));
      }
      return text.append(blank()).append(";").toString();
    }

    /** Mostly a formula of the type that is wanted. */
    private String formula(List<Integer> list, char type, int open) {
      StringBuilder text = new StringBuilder(blank());
      if (type == 'n' && random.nextInt(6) == 0) {
        text.append(term(list, 'd', open)).append(blank()).append("-").append(blank()).append(term(list, 'd', open));
      } else {
        text.append(term(list, type, open));
      }
      while (random.nextInt(3) == 0) {
        text.append(blank()).append(type == 't' ? "&" : random.nextBoolean() ? "+" : "-").append(blank())
            .append(term(list, type == 't' ? 't' : 'n', open));
      }
      return text.toString();
    }

    private String term(List<Integer> list, char type, int open) {
      if (random.nextInt(3) != 0 || type == 'd') {
        for (int tries = 0; tries < 12 && !list.isEmpty(); tries++) {
          Model.Table table = m.tables.get(list.get(random.nextInt(list.size())));
          int c = random.nextInt(table.columns.size());
          if (table.types.get(c) == type || random.nextInt(150) == 0) {
            return table.name + blank() + "." + blank() + table.columns.get(c);
          }
        }
      }
      if (open < 3 && random.nextInt(3) == 0 || random.nextInt(open < 3 ? 80 : 9) == 0) {
        String inside = formula(list, type == 'n' ? 't' : 'n', open + 1);
        return (type == 'n' ? "len" : "str") + blank() + "(" + blank() + inside + blank() + ")";
      }
      return type == 'n' ? "" + random.nextInt(30) : type == 't' ? "'" + "ab c".substring(random.nextInt(4)) + "'"
          : name() + ".x";
    }

    private String spoiled(String text) {
      StringBuilder s = new StringBuilder(text);
      int times = 1 + random.nextInt(2);
      for (int i = 0; i < times && s.length() > 0; i++) {
        int at = random.nextInt(s.length());
        switch (random.nextInt(7)) {
          case 0: s.deleteCharAt(at); break;
          case 1: s.insert(at, (char) random.nextInt(256)); break;
          case 2: s.setCharAt(at, " \n;:.,=<()'+-&1az".charAt(random.nextInt(17))); break;
          case 3: s.insert(at, " \n;:.,=<()'+-&1az".charAt(random.nextInt(17))); break;
          case 4: s.setLength(at); break;
          case 5: s.insert(at, new String[] {" from ", "len(", "str ( ", "view", "where", "12345", "abcdefghi", "'a'", ", a",
            "a.x", "+1", ")"}[random.nextInt(12)]); break;
          default: {
            int stop = Math.min(s.length(), at + random.nextInt(12));
            s.insert(random.nextInt(s.length()), s.substring(at, stop));
          }
        }
      }
      if (s.length() > 400) {
        s.setLength(400);
      }
      return s.toString();
    }
  }

  /** The catalogue once more. */
  private static final class Model {
    final List<Table> tables = new ArrayList<>();
    final List<int[]> asks = new ArrayList<>();
    List<Integer> found = new ArrayList<>();
    int today = 0;
    int fault = 0;
    int place = -1;

    static final class Table {
      String name;
      int kind;
      List<String> columns = new ArrayList<>();
      List<Character> types = new ArrayList<>();
      List<Integer> behind = new ArrayList<>();
      List<Node> formulas = new ArrayList<>();
      Node where;
      List<String> words = new ArrayList<>();
      int[] told = null;
      int owner = -1;
      int lag = -1;

      boolean select() {
        return kind == 1 || kind == 2;
      }
    }

    /** A piece of a formula; word is its sign or word, or "." for a column, "1", "'" for a constant. */
    static final class Node {
      String word;
      int place;
      Node left;
      Node right;
      String table;
      String column;
      int columnPlace;
      int code = -1;
    }

    static final class Stop extends RuntimeException {
      final int place;

      Stop(int place) {
        super(null, null, false, false);
        this.place = place;
      }
    }

    // ---- grammar: sign by sign

    private String text;
    private int at;
    private Table made;
    private List<Integer> columnPlaces;
    private List<String> behindNames;
    private List<Integer> behindPlaces;
    private int namePlace;
    private List<String> words;

    private void blanks() {
      while (at < text.length() && (text.charAt(at) == ' ' || text.charAt(at) == '\n')) {
        at++;
      }
    }

    private boolean sees(String signs) {
      blanks();
      return at < text.length() && signs.indexOf(text.charAt(at)) >= 0;
    }

    private String word() {
      blanks();
      int stop = at;
      while (stop < text.length() && text.charAt(stop) >= 'a' && text.charAt(stop) <= 'z') {
        stop++;
      }
      return text.substring(at, stop);
    }

    private void sign(String sign) {
      if (!sees(sign)) {
        throw new Stop(at);
      }
      words.add(sign);
      at++;
    }

    private void keyword(String keyword) {
      if (!word().equals(keyword)) {
        throw new Stop(at);
      }
      words.add(keyword);
      at += keyword.length();
    }

    private String takeName() {
      String name = word();
      if (name.isEmpty() || List.of("view", "copy", "table", "from", "where", "len", "str").contains(name)) {
        throw new Stop(at);
      }
      if (name.length() > 8) {
        throw new Stop(at + 8);
      }
      words.add(name);
      at += name.length();
      return name;
    }

    private void read(String statement) {
      text = statement;
      at = 0;
      made = new Table();
      columnPlaces = new ArrayList<>();
      behindNames = new ArrayList<>();
      behindPlaces = new ArrayList<>();
      words = new ArrayList<>();
      String first = word();
      made.kind = List.of("table", "view", "copy").indexOf(first);
      keyword(made.kind < 0 ? "none" : first);
      blanks();
      namePlace = at;
      made.name = takeName();
      words = made.words;
      if (made.kind == 0) {
        sign("(");
        readColumns();
        sign(")");
      } else {
        sign("=");
        readColumns();
        keyword("from");
        do {
          blanks();
          if (behindNames.size() == 3) {
            throw new Stop(at);
          }
          behindPlaces.add(at);
          behindNames.add(takeName());
        } while (comma());
        if (word().equals("where")) {
          keyword("where");
          Node left = formula(0);
          if (!sees("<=")) {
            throw new Stop(at);
          }
          made.where = node("" + text.charAt(at), at);
          sign(made.where.word);
          made.where.left = left;
          made.where.right = formula(0);
        }
      }
      sign(";");
      blanks();
      if (at < text.length()) {
        throw new Stop(at);
      }
    }

    private boolean comma() {
      if (sees(",")) {
        sign(",");
        return true;
      }
      return false;
    }

    private void readColumns() {
      do {
        blanks();
        if (made.columns.size() == 6) {
          throw new Stop(at);
        }
        columnPlaces.add(at);
        made.columns.add(takeName());
        if (made.kind == 0) {
          String type = word();
          if (!List.of("n", "t", "d").contains(type)) {
            throw new Stop(at);
          }
          at++;
          made.types.add(type.charAt(0));
        } else {
          sign(":");
          made.formulas.add(formula(0));
        }
      } while (comma());
    }

    private static Node node(String word, int place) {
      Node node = new Node();
      node.word = word;
      node.place = place;
      return node;
    }

    private Node formula(int open) {
      Node left = term(open);
      for (int more = 0; sees("+-&"); more++) {
        if (more == 5) {
          throw new Stop(at);
        }
        Node node = node("" + text.charAt(at), at);
        sign(node.word);
        node.left = left;
        node.right = term(open);
        left = node;
      }
      return left;
    }

    private Node term(int open) {
      String word = word();
      Node node = node(word, at);
      if (word.equals("len") || word.equals("str")) {
        keyword(word);
        blanks();
        if (open == 3) {
          throw new Stop(at);
        }
        sign("(");
        node.left = formula(open + 1);
        sign(")");
      } else if (!word.isEmpty()) {
        node.word = ".";
        node.table = takeName();
        sign(".");
        blanks();
        node.columnPlace = at;
        node.column = takeName();
      } else if (sees("'")) {
        node.word = "'";
        int start = at;
        at++;
        while (at < text.length() && (text.charAt(at) == ' ' || text.charAt(at) >= 'a' && text.charAt(at) <= 'z')) {
          at++;
        }
        if (at == text.length() || text.charAt(at) != '\'') {
          throw new Stop(at);
        }
        at++;
        words.add(text.substring(start, at));
      } else if (sees("0123456789")) {
        node.word = "1";
        int start = at;
        while (at < text.length() && text.charAt(at) >= '0' && text.charAt(at) <= '9') {
          if (at - start == 4) {
            throw new Stop(at);
          }
          at++;
        }
        words.add(text.substring(start, at));
      } else {
        throw new Stop(at);
      }
      return node;
    }

    // ---- faults

    private void fault(int what, int where) {
      if (fault == 0 || where < place) {
        fault = what;
        place = where;
      }
    }

    private int lookUp(String name) {
      for (int t = 0; t < tables.size(); t++) {
        if (tables.get(t) != null && tables.get(t).name.equals(name)) {
          return t;
        }
      }
      return -1;
    }

    private void repeats(List<String> names, List<Integer> places) {
      for (int i = 0; i < names.size(); i++) {
        if (names.indexOf(names.get(i)) < i) {
          fault(4, places.get(i));
        }
      }
    }

    private void resolve(Node node) {
      if (node == null) {
        return;
      }
      resolve(node.left);
      resolve(node.right);
      if (!node.word.equals(".")) {
        return;
      }
      if (!behindNames.contains(node.table)) {
        fault(2, node.place);
        return;
      }
      int t = lookUp(node.table);
      if (t >= 0) {
        int c = tables.get(t).columns.indexOf(node.column);
        if (c < 0) {
          fault(2, node.columnPlace);
        } else {
          node.code = 8 * t + c;
        }
      }
    }

    /** Types by column; '?' fits everywhere. The places of those that can't be go into bad. */
    private char typeOf(Node node, char[] types, Set<Integer> bad) {
      if (node == null) {
        return '?';
      }
      char left = typeOf(node.left, types, bad);
      char right = typeOf(node.right, types, bad);
      switch (node.word) {
        case ".": return node.code < 0 ? '?' : types[node.code];
        case "1": return 'n';
        case "'": return 't';
        case "len":
          if (left != 't' && left != '?') {
            bad.add(node.place);
          }
          return 'n';
        case "str":
          if (left != 'n' && left != '?') {
            bad.add(node.place);
          }
          return 't';
        default:
      }
      if (left == '?' || right == '?') {
        return '?';
      }
      String all = "" + left + node.word + right;
      if (node.word.equals("<") || node.word.equals("=")) {
        if (left != right) {
          bad.add(node.place);
        }
        return '?';
      }
      int known = List.of("n+n", "n-n", "d+n", "d-n", "d-d", "t&t").indexOf(all);
      if (known < 0) {
        bad.add(node.place);
        return '?';
      }
      return "nnddnt".charAt(known);
    }

    private char[] typesNow() {
      char[] types = new char[128];
      for (int t = 0; t < tables.size(); t++) {
        for (int c = 0; tables.get(t) != null && c < tables.get(t).types.size(); c++) {
          types[8 * t + c] = tables.get(t).types.get(c);
        }
      }
      return types;
    }

    int act(String statement) {
      fault = 0;
      place = -1;
      try {
        read(statement);
      } catch (Stop stop) {
        fault(1, stop.place);
        return -1;
      }
      if (lookUp(made.name) >= 0) {
        fault(4, namePlace);
      }
      repeats(made.columns, columnPlaces);
      repeats(behindNames, behindPlaces);
      for (int i = 0; i < behindNames.size(); i++) {
        made.behind.add(lookUp(behindNames.get(i)));
        if (lookUp(behindNames.get(i)) < 0) {
          fault(2, behindPlaces.get(i));
        }
      }
      Set<Integer> bad = new TreeSet<>();
      for (Node formula : made.formulas) {
        resolve(formula);
        made.types.add(typeOf(formula, typesNow(), bad));
      }
      resolve(made.where);
      typeOf(made.where, typesNow(), bad);
      for (int where : bad) {
        fault(3, where);
      }
      if (fault == 0 && tables.size() == 16) {
        fault(5, 0);
      }
      if (fault != 0) {
        return -1;
      }
      tables.add(made);
      return tables.size() - 1;
    }

    int named(String statement) {
      text = statement;
      at = 0;
      words = new ArrayList<>();
      try {
        String name = takeName();
        blanks();
        return at < text.length() ? -1 : lookUp(name) < 0 ? -2 : lookUp(name);
      } catch (Stop stop) {
        return -1;
      }
    }

    // ---- the rest

    private Table get(int t) {
      return t < 0 || t >= tables.size() ? null : tables.get(t);
    }

    private boolean has(int t, int c) {
      return get(t) != null && c >= 0 && c < get(t).columns.size();
    }

    private int[] age(int t) {
      Table table = tables.get(t);
      return table.kind == 1 ? ageBehind(table) : table.told;
    }

    private int[] ageBehind(Table table) {
      int[] age = {Integer.MAX_VALUE, -1};
      for (int u : table.behind) {
        int[] other = age(u);
        if (other == null) {
          return null;
        }
        age[0] = Math.min(age[0], other[0]);
        age[1] = Math.max(age[1], other[1]);
      }
      return age;
    }

    private int owner(int t) {
      Table table = tables.get(t);
      return table.owner >= 0 ? table.owner : table.behind.isEmpty() ? -1 : owner(table.behind.get(0));
    }

    int table(int t, int what) {
      Table table = get(t);
      if (table == null || what < 0 || what > 9) {
        return -1;
      }
      int[] age = age(t);
      int[] all = {table.kind, table.columns.size(), table.behind.size(), -1, -1, -1, age == null ? -1 : age[0],
        age == null ? -1 : age[1], owner(t), table.lag};
      for (int i = 0; i < table.behind.size(); i++) {
        all[3 + i] = table.behind.get(i);
      }
      return all[what];
    }

    int type(int t, int c) {
      return has(t, c) ? get(t).types.get(c) : -1;
    }

    private static void uses(Node node, Set<Integer> codes) {
      if (node != null) {
        uses(node.left, codes);
        uses(node.right, codes);
        if (node.code >= 0) {
          codes.add(node.code);
        }
      }
    }

    private Set<Integer> usedBy(int code) {
      Set<Integer> codes = new TreeSet<>();
      Table table = tables.get(code / 8);
      if (table.select()) {
        uses(table.formulas.get(code % 8), codes);
      }
      return codes;
    }

    private int find(Iterable<Integer> all) {
      found = new ArrayList<>();
      for (int one : all) {
        found.add(one);
      }
      return found.size();
    }

    int from(int t, int c, int how) {
      if (!has(t, c) || how < 0 || how > 2) {
        return -1;
      }
      Set<Integer> all = new TreeSet<>(usedBy(8 * t + c));
      boolean more = how > 0;
      while (more) {
        Set<Integer> next = new TreeSet<>(all);
        for (int code : all) {
          next.addAll(usedBy(code));
        }
        more = next.size() > all.size();
        all = next;
      }
      if (how == 2) {
        all.removeIf(code -> tables.get(code / 8).kind != 0);
      }
      return find(all);
    }

    private Set<Integer> touched(int start) {
      Set<Integer> all = new TreeSet<>();
      all.add(start);
      int before = 0;
      while (all.size() > before) {
        before = all.size();
        for (int t = 0; t < tables.size(); t++) {
          Table table = tables.get(t);
          for (int c = 0; table != null && table.select() && c < table.columns.size(); c++) {
            Set<Integer> used = usedBy(8 * t + c);
            uses(table.where, used);
            used.retainAll(all);
            if (!used.isEmpty()) {
              all.add(8 * t + c);
            }
          }
        }
      }
      return all;
    }

    int touch(int t, int c) {
      if (!has(t, c)) {
        return -1;
      }
      Set<Integer> all = touched(8 * t + c);
      all.remove(8 * t + c);
      return find(all);
    }

    int asked(int t, int c) {
      if (!has(t, c)) {
        return -1;
      }
      Set<Integer> all = touched(8 * t + c);
      Set<Integer> which = new LinkedHashSet<>();
      for (int i = 0; i < asks.size(); i++) {
        for (int d = 0; asks.get(i) != null && d < 6; d++) {
          if ((asks.get(i)[1] >> d & 1) == 1 && all.contains(8 * asks.get(i)[0] + d)) {
            which.add(i);
          }
        }
      }
      return find(which);
    }

    int retype(int t, int c, int type) {
      if (!has(t, c) || get(t).kind != 0 || "ntd".indexOf(type) < 0) {
        return -1;
      }
      char[] types = typesNow();
      types[8 * t + c] = (char) type;
      List<Integer> trouble = new ArrayList<>();
      int others = 0;
      for (int u = 0; u < tables.size(); u++) {
        Table table = tables.get(u);
        if (table == null || !table.select()) {
          continue;
        }
        for (int d = 0; d <= 6; d++) {
          Node node = d == 6 ? table.where : d < table.formulas.size() ? table.formulas.get(d) : null;
          Set<Integer> bad = new TreeSet<>();
          char next = typeOf(node, types, bad);
          if (!bad.isEmpty()) {
            trouble.add(8 * u + d);
          } else if (d < 6 && node != null) {
            others += next == types[8 * u + d] ? 0 : 1;
            types[8 * u + d] = next;
          }
        }
      }
      if (!trouble.isEmpty()) {
        find(trouble);
        return -2;
      }
      for (int u = 0; u < tables.size(); u++) {
        for (int d = 0; tables.get(u) != null && d < tables.get(u).types.size(); d++) {
          tables.get(u).types.set(d, types[8 * u + d]);
        }
      }
      return others;
    }

    int drop(int t) {
      if (get(t) == null) {
        return -1;
      }
      for (Table table : tables) {
        if (table != null && table.behind.contains(t)) {
          return -2;
        }
      }
      tables.set(t, null);
      int count = 0;
      for (int i = 0; i < asks.size(); i++) {
        if (asks.get(i) != null && asks.get(i)[0] == t) {
          asks.set(i, null);
          count++;
        }
      }
      return count;
    }

    boolean freeze(int t) {
      if (get(t) == null || get(t).kind != 2) {
        return false;
      }
      get(t).kind = 3;
      get(t).behind.clear();
      get(t).formulas.clear();
      get(t).where = null;
      return true;
    }

    boolean setToday(int day) {
      boolean right = day >= today && day <= 30000;
      today = right ? day : today;
      return right;
    }

    boolean fed(int t, int oldest, int newest) {
      if (get(t) == null || get(t).kind != 0 || oldest > newest || newest > today || oldest < 0) {
        return false;
      }
      get(t).told = new int[] {oldest, newest};
      return true;
    }

    boolean run(int t) {
      if (get(t) == null || get(t).kind != 2 || ageBehind(get(t)) == null) {
        return false;
      }
      get(t).told = ageBehind(get(t));
      return true;
    }

    boolean promise(int t, int lag) {
      if (get(t) == null || lag < -1 || lag > 1000) {
        return false;
      }
      get(t).lag = lag;
      return true;
    }

    private boolean old(int t, int limit) {
      return age(t) == null || age(t)[1] < limit;
    }

    private boolean isBroken(int t) {
      return get(t) != null && get(t).lag >= 0 && old(t, today - get(t).lag);
    }

    int broken() {
      List<Integer> all = new ArrayList<>();
      for (int t = 0; t < 16; t++) {
        if (isBroken(t)) {
          all.add(t);
        }
      }
      return find(all);
    }

    int late(int t) {
      return isBroken(t) ? lateFrom(t, today - get(t).lag) : -1;
    }

    private int lateFrom(int t, int limit) {
      for (int u : get(t).behind) {
        if (old(u, limit)) {
          return lateFrom(u, limit);
        }
      }
      return t;
    }

    boolean own(int t, int user) {
      if (get(t) == null || user < -1 || user > 9) {
        return false;
      }
      get(t).owner = user;
      return true;
    }

    int ask(int user, int t, int bits) {
      if (get(t) == null || user < 0 || user > 9 || asks.size() == 40) {
        return -1;
      }
      if (bits == 0 || bits >>> get(t).columns.size() != 0) {
        return -1;
      }
      asks.add(new int[] {t, bits, today});
      return asks.size() - 1;
    }

    private void use(int t, Set<Integer> used) {
      used.add(t);
      for (int u : get(t).behind) {
        use(u, used);
      }
    }

    int unused(int since) {
      Set<Integer> used = new TreeSet<>();
      for (int[] ask : asks) {
        if (ask != null && ask[2] >= since) {
          use(ask[0], used);
        }
      }
      List<Integer> all = new ArrayList<>();
      for (int t = 0; t < tables.size(); t++) {
        if (tables.get(t) != null && !used.contains(t)) {
          all.add(t);
        }
      }
      return find(all);
    }

    int alike(int a, int b) {
      if (a == b || get(a) == null || get(b) == null || !get(a).select() || !get(b).select()) {
        return -1;
      }
      return get(a).words.equals(get(b).words) ? 1 : 0;
    }
  }
}
