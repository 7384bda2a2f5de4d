import java.util.ArrayList;
import java.util.Arrays;
import java.util.Collections;
import java.util.Comparator;
import java.util.List;
import java.util.Random;
import java.util.Set;
import java.util.TreeSet;

/**
 * Long runs of drawn calls, each answered by the class and by a slow model that is written straight from the
 * document's words over plain strings. The draws have fixed seeds, so each run is always the same.
 */
public final class ModelTest {
  static final int BAD = -1, NOT = -2, FULL = -3, NONE = -4, NULL = -11, CAST = -12, INDEX = -13, SIZE = -14;
  static final int CALLS = 512;

  public static void main(String[] args) {
    int wrong = 0;
    int runs = 1000;
    int[] asked = new int[32];
    for (int run = 0; run < runs; run++) {
      wrong += play(run, asked);
      if (wrong > 20) {
        break;
      }
    }
    for (int call = 1; call < asked.length; call++) {
      if (asked[call] == 0) {
        wrong++;
        System.out.println("call " + call + " was never drawn");
      }
    }
    System.out.println(wrong == 0
        ? runs + " drawn runs are as the model says" : wrong + " answers are not as the model says");
    if (wrong != 0) {
      System.exit(1);
    }
  }

  static int play(int run, int[] asked) {
    Random random = new Random(run);
    Drawer drawer = new Drawer(random, run);
    MirrorNodes real = new MirrorNodes();
    Model model = new Model();
    List<String> told = new ArrayList<>();
    // What looks at the state is calls, too: an object is used for at most 512 of both together.
    int used = 0;
    for (int i = 0; used < CALLS; i++) {
      int call = drawer.call();
      asked[call]++;
      long[] a = drawer.arguments(call, model);
      long due = answerOfModel(model, call, a);
      long got = answerOfClass(real, call, a);
      used++;
      told.add("call " + call + " " + Arrays.toString(a) + " -> " + got);
      if (got != due) {
        int from = Math.max(0, told.size() - 6);
        System.out.println("run " + run + ", call " + i + ", text " + model.text + ": due is " + due + "; the latest:");
        told.subList(from, told.size()).forEach(System.out::println);
        return 1;
      }
      int looks = 8 + model.text.length();
      if (i % 32 == 31 && used + looks <= CALLS) {
        used += looks;
        if (!sameState(run, i, real, model)) {
          return 1;
        }
      }
    }
    return 0;
  }

  /** Asks for all that can be seen of the text without any change. */
  static boolean sameState(int run, int call, MirrorNodes real, Model model) {
    boolean same = true;
    for (int what = 0; what < 8; what++) {
      same &= real.count(what) == model.count(what);
    }
    for (int place = 0; place < model.text.length(); place++) {
      same &= real.letter(place) == model.text.charAt(place);
    }
    if (!same) {
      System.out.println("run " + run + ", after call " + call + ": the state is not as due, text " + model.text);
    }
    return same;
  }

  /** Draws calls with arguments, mostly fitting ones, some at the edges and some far off. */
  static final class Drawer {
    static final int[] FAR = {Integer.MIN_VALUE, Integer.MAX_VALUE, -1000, 1000, -2, -1};
    static final int[] DEAR = {18, 19, 20};
    final Random random;
    final int alphabet;
    final int growth;

    Drawer(Random random, int run) {
      this.random = random;
      this.alphabet = 1 + run % 6;
      this.growth = run % 4;
    }

    int call() {
      int draw = random.nextInt(100);
      if (draw < 4 + 4 * growth) {
        return 1;
      }
      if (draw > 95) {
        return 25;
      }
      int call = 1 + random.nextInt(31);
      if (call == 26 && random.nextBoolean()) {
        call = 27;
      }
      boolean dear = false;
      for (int d : DEAR) {
        dear |= d == call;
      }
      return dear && random.nextInt(4) != 0 ? 1 : call;
    }

    int number(int least, int greatest) {
      int draw = random.nextInt(40);
      if (draw == 0) {
        return least - 1;
      }
      if (draw == 1) {
        return greatest + 1;
      }
      if (draw == 2) {
        return FAR[random.nextInt(FAR.length)];
      }
      return greatest < least ? least : least + random.nextInt(greatest - least + 1);
    }

    int letter() {
      return random.nextInt(30) == 0 ? number(97, 102) : 97 + random.nextInt(alphabet);
    }

    long value() {
      switch (random.nextInt(5)) {
        case 0: return random.nextLong();
        case 1: return random.nextInt(70000) - 2000;
        case 2: return 250 + random.nextInt(10);
        default: return 97 + random.nextInt(alphabet);
      }
    }

    int sheet() { return number(0, 3); }

    int lane(Model model, int sheet) {
      boolean there = sheet >= 0 && sheet < 4 && model.sheets[sheet] != null;
      return there && random.nextInt(6) != 0 ? model.lanes[sheet] : number(0, 3);
    }

    int itemsOf(Model model, int sheet) {
      return sheet >= 0 && sheet < 4 && model.sheets[sheet] != null ? model.sheets[sheet].length : 3;
    }

    long[] arguments(int call, Model model) {
      int size = model.text.length();
      int nodes = model.nodes(model.text).size();
      switch (call) {
        case 1: return new long[] {letter()};
        case 3: return new long[] {number(0, size - 1), letter()};
        case 5: return new long[] {number(0, size - 1)};
        case 6: return new long[] {number(0, nodes - 1), number(0, 7)};
        case 7: return new long[] {number(0, 1)};
        case 8: return new long[] {number(0, 1)};
        case 9: return new long[] {number(0, 1), number(0, 1)};
        case 10: return new long[] {number(0, size - 1), number(-1, 6)};
        case 11: return new long[] {number(0, size - 1)};
        case 12: return new long[] {number(0, size), number(-1, 12)};
        case 13: return new long[] {number(0, size)};
        case 14: {
          int i = number(0, size);
          return new long[] {i, number(i >= 0 && i <= size ? i : 0, size), number(0, 2)};
        }
        case 15: return new long[] {number(0, 1)};
        case 16: return new long[] {number(0, 1)};
        case 17: return new long[] {letter(), number(0, 1)};
        case 18: return new long[] {number(0, 3), number(-1, 3)};
        case 19: return new long[] {number(0, 4), random.nextBoolean() ? number(0, 4) : number(0, 9), number(0, 1)};
        case 20: return new long[] {number(0, 60), number(1, 999999), number(0, 1)};
        case 21: return new long[] {random.nextInt(4) == 0 ? number(0, 255) : letter()};
        case 25: return new long[] {sheet(), number(0, 3), random.nextInt(4) == 0 ? number(0, 48) : number(0, 12)};
        case 26: return new long[] {sheet()};
        default: return sheetArguments(call, model, nodes);
      }
    }

    long[] sheetArguments(int call, Model model, int nodes) {
      int sheet = sheet();
      int items = itemsOf(model, sheet);
      switch (call) {
        case 27: return new long[] {sheet, lane(model, sheet), number(0, items - 1), value()};
        case 28: {
          int to = random.nextBoolean() ? sheet : sheet();
          int n = number(0, Math.min(items, itemsOf(model, to)));
          return new long[] {sheet, number(0, items - n), to, number(0, itemsOf(model, to) - n), n};
        }
        case 29: return new long[] {number(0, nodes - 1), sheet, lane(model, sheet), number(0, items - 1)};
        case 30: {
          int n = random.nextInt(4) == 0 ? number(0, 48) : number(0, items);
          return new long[] {sheet, lane(model, sheet), number(0, items - n), n};
        }
        case 31: return new long[] {number(0, 7)};
        default: return new long[0];
      }
    }
  }

  static long answerOfClass(MirrorNodes x, int call, long[] v) {
    int[] a = new int[5];
    for (int i = 0; i < v.length; i++) {
      a[i] = (int) v[i];
    }
    switch (call) {
      case 1: return x.put(a[0]);
      case 2: return x.pop();
      case 3: return x.change(a[0], a[1]);
      case 4: return x.undo();
      case 5: return x.letter(a[0]);
      case 6: return x.node(a[0], a[1]);
      case 7: return x.keep(a[0]);
      case 8: return x.back(a[0]);
      case 9: return x.common(a[0], a[1]);
      case 10: return x.ends(a[0], a[1]);
      case 11: return x.groups(a[0]);
      case 12: return x.cuts(a[0], a[1]);
      case 13: return x.evens(a[0]);
      case 14: return x.in(a[0], a[1], a[2]);
      case 15: return x.mend(a[0]);
      case 16: return x.turned(a[0]);
      case 17: return x.next(a[0], a[1]);
      case 18: return x.grow(a[0], a[1]);
      case 19: return x.odds(a[0], a[1], a[2]);
      case 20: return x.walks(a[0], a[1], a[2]);
      case 21: return x.feed(a[0]);
      case 22: return x.clear();
      case 23: return x.find();
      case 24: return x.times();
      case 25: return x.sheet(a[0], a[1], a[2]);
      case 26: return x.drop(a[0]);
      case 27: return x.item(a[0], a[1], a[2], v[3]);
      case 28: return x.copy(a[0], a[1], a[2], a[3], a[4]);
      case 29: return x.spell(a[0], a[1], a[2], a[3]);
      case 30: return x.read(a[0], a[1], a[2], a[3]);
      default: return x.count(a[0]);
    }
  }

  static long answerOfModel(Model x, int call, long[] v) {
    int[] a = new int[5];
    for (int i = 0; i < v.length; i++) {
      a[i] = (int) v[i];
    }
    switch (call) {
      case 1: return x.put(a[0]);
      case 2: return x.pop();
      case 3: return x.change(a[0], a[1]);
      case 4: return x.undo();
      case 5: return x.isPlace(a[0]) ? x.text.charAt(a[0]) : BAD;
      case 6: return x.node(a[0], a[1]);
      case 7: return x.keep(a[0]);
      case 8: return x.back(a[0]);
      case 9: return x.common(a[0], a[1]);
      case 10: return x.ends(a[0], a[1]);
      case 11: return x.groups(a[0]);
      case 12: return x.cuts(a[0], a[1]);
      case 13: return x.evens(a[0]);
      case 14: return x.in(a[0], a[1], a[2]);
      case 15: return x.mend(a[0]);
      case 16: return x.turned(a[0]);
      case 17: return x.next(a[0], a[1]);
      case 18: return x.grow(a[0], a[1]);
      case 19: return x.odds(a[0], a[1], a[2]);
      case 20: return x.walks(a[0], a[1], a[2]);
      case 21: return x.feed(a[0]);
      case 22: return x.clear();
      case 23: return x.find();
      case 24: return x.times();
      case 25: return x.sheet(a[0], a[1], a[2]);
      case 26: return x.drop(a[0]);
      case 27: return x.item(a[0], a[1], a[2], v[3]);
      case 28: return x.copy(a[0], a[1], a[2], a[3], a[4]);
      case 29: return x.spell(a[0], a[1], a[2], a[3]);
      case 30: return x.read(a[0], a[1], a[2], a[3]);
      default: return x.count(a[0]);
    }
  }

  /** The document's words over strings, with no thought of speed. */
  static final class Model {
    String text = "";
    final List<String> earlier = new ArrayList<>();
    final String[] images = new String[2];
    String tape = "";
    final long[][] sheets = new long[4][];
    final int[] lanes = new int[4];

    static boolean isPalindrome(String row) {
      return !row.isEmpty() && new StringBuilder(row).reverse().toString().equals(row);
    }

    static List<Integer> places(String text, String row) {
      List<Integer> places = new ArrayList<>();
      for (int i = 0; i + row.length() <= text.length(); i++) {
        if (text.startsWith(row, i)) {
          places.add(i);
        }
      }
      return places;
    }

    String nodesText = null;
    List<String> nodesKept = null;

    List<String> nodes(String of) {
      if (of.equals(nodesText)) {
        return nodesKept;
      }
      Set<String> unlike = new TreeSet<>();
      for (int i = 0; i < of.length(); i++) {
        for (int j = i + 1; j <= of.length(); j++) {
          if (isPalindrome(of.substring(i, j))) {
            unlike.add(of.substring(i, j));
          }
        }
      }
      List<String> nodes = new ArrayList<>(unlike);
      nodes.sort(Comparator.comparingInt(row -> of.indexOf(row) + row.length()));
      nodesText = of;
      nodesKept = nodes;
      return nodes;
    }

    boolean isPlace(int place) { return place >= 0 && place < text.length(); }

    static boolean isLetter(int letter) { return letter >= 'a' && letter <= 'f'; }

    void act(String then) {
      earlier.add(text);
      if (earlier.size() > 24) {
        earlier.remove(0);
      }
      text = then;
    }

    static String longestEnd(String row) {
      for (int i = 0; i < row.length(); i++) {
        if (isPalindrome(row.substring(i))) {
          return row.substring(i);
        }
      }
      return "";
    }

    int put(int letter) {
      if (!isLetter(letter)) return BAD;
      if (text.length() == 48) return FULL;
      act(text + (char) letter);
      return longestEnd(text).length();
    }

    int pop() {
      if (text.isEmpty()) return NOT;
      int last = text.charAt(text.length() - 1);
      act(text.substring(0, text.length() - 1));
      return last;
    }

    int change(int place, int letter) {
      if (!isPlace(place) || !isLetter(letter)) return BAD;
      int old = text.charAt(place);
      if (old == letter) return NOT;
      act(text.substring(0, place) + (char) letter + text.substring(place + 1));
      return old;
    }

    int undo() {
      if (earlier.isEmpty()) return NONE;
      text = earlier.remove(earlier.size() - 1);
      return earlier.size();
    }

    static String link(String row) { return longestEnd(row.substring(1)); }

    static int less(String row) { return row.length() - link(row).length(); }

    static String series(String row) {
      String other = link(row);
      while (!other.isEmpty() && less(other) == less(row)) {
        other = link(other);
      }
      return other;
    }

    int number(String row) {
      return row.isEmpty() ? NONE : nodes(text).indexOf(row);
    }

    int node(int node, int what) {
      List<String> nodes = nodes(text);
      if (node < 0 || node >= nodes.size() || what < 0 || what > 7) return BAD;
      String row = nodes.get(node);
      List<Integer> places = places(text, row);
      switch (what) {
        case 0: return row.length();
        case 1: return places.get(0);
        case 2: return places.get(places.size() - 1);
        case 3: return places.size();
        case 4: return number(link(row));
        case 5: return less(row);
        case 6: return number(series(row));
        default: return number(row.length() < 3 ? "" : row.substring(1, row.length() - 1));
      }
    }

    int keep(int k) {
      if (k < 0 || k > 1) return BAD;
      images[k] = text;
      return text.length();
    }

    int back(int k) {
      if (k < 0 || k > 1) return BAD;
      if (images[k] == null) return NOT;
      text = images[k];
      earlier.clear();
      return text.length();
    }

    int common(int k, int what) {
      if (k < 0 || k > 1 || what < 0 || what > 1) return BAD;
      if (images[k] == null) return NOT;
      List<String> both = new ArrayList<>(nodes(text));
      both.retainAll(nodes(images[k]));
      return what == 0 ? both.size() : both.stream().mapToInt(String::length).max().orElse(0);
    }

    List<String> endsAt(int place) {
      List<String> ends = new ArrayList<>();
      for (int i = 0; i <= place; i++) {
        if (isPalindrome(text.substring(i, place + 1))) {
          ends.add(text.substring(i, place + 1));
        }
      }
      return ends;
    }

    int ends(int place, int k) {
      if (!isPlace(place) || k < -1) return BAD;
      List<String> ends = endsAt(place);
      if (k == -1) return ends.size();
      return k < ends.size() ? ends.get(k).length() : NONE;
    }

    int groups(int place) {
      if (!isPlace(place)) return BAD;
      int many = 0;
      for (String row = endsAt(place).get(0); !row.isEmpty(); row = series(row)) {
        many++;
      }
      return many;
    }

    /** The best ways for all beginnings: fewest pieces, then the least lengths in order; null where there is none. */
    static List<Integer> bestWay(String row, boolean even) {
      List<List<Integer>> best = new ArrayList<>();
      best.add(new ArrayList<>());
      for (int n = 1; n <= row.length(); n++) {
        List<Integer> way = null;
        for (int i = 0; i < n; i++) {
          boolean fits = isPalindrome(row.substring(i, n)) && !(even && (n - i) % 2 == 1);
          if (fits && best.get(i) != null) {
            List<Integer> other = new ArrayList<>(best.get(i));
            other.add(n - i);
            way = way == null || isBetter(other, way) ? other : way;
          }
        }
        best.add(way);
      }
      return best.get(row.length());
    }

    static boolean isBetter(List<Integer> a, List<Integer> b) {
      if (a.size() != b.size()) {
        return a.size() < b.size();
      }
      return Arrays.compare(a.stream().mapToInt(x -> x).toArray(), b.stream().mapToInt(x -> x).toArray()) < 0;
    }

    int cuts(int n, int k) {
      if (n < 0 || n > text.length() || k < -1) return BAD;
      List<Integer> way = bestWay(text.substring(0, n), false);
      if (k == -1) return way.size();
      return k < way.size() ? way.get(k) : NONE;
    }

    int evens(int n) {
      if (n < 0 || n > text.length()) return BAD;
      List<Integer> way = bestWay(text.substring(0, n), true);
      return way == null ? NONE : way.size();
    }

    int in(int i, int j, int what) {
      if (i < 0 || j < i || j > text.length() || what < 0 || what > 2) return BAD;
      String span = text.substring(i, j);
      if (what == 2) return nodes(span).size();
      for (int length = span.length(); length > 0; length--) {
        for (int at = 0; at + length <= span.length(); at++) {
          if (isPalindrome(span.substring(at, at + length))) {
            return what == 0 ? length : i + at;
          }
        }
      }
      return what == 0 ? 0 : NONE;
    }

    int mend(int what) {
      if (what < 0 || what > 1) return BAD;
      String turned = new StringBuilder(text).reverse().toString();
      int n = text.length();
      if (what == 0) {
        int unlike = 0;
        for (int i = 0; i < n; i++) {
          unlike += text.charAt(i) != turned.charAt(i) ? 1 : 0;
        }
        return unlike / 2;
      }
      // What need not be put in is a longest row that the text and the text from behind have in common.
      int[][] same = new int[n + 1][n + 1];
      for (int i = 1; i <= n; i++) {
        for (int j = 1; j <= n; j++) {
          same[i][j] = text.charAt(i - 1) == turned.charAt(j - 1)
              ? same[i - 1][j - 1] + 1 : Math.max(same[i - 1][j], same[i][j - 1]);
        }
      }
      return n - same[n][n];
    }

    int turned(int what) {
      if (what < 0 || what > 1) return BAD;
      List<Integer> ways = new ArrayList<>();
      for (int k = 0; k < text.length(); k++) {
        if (isPalindrome(text.substring(k) + text.substring(0, k))) {
          ways.add(k);
        }
      }
      if (what == 0) return ways.size();
      return ways.isEmpty() ? NONE : Collections.min(ways);
    }

    int next(int letter, int what) {
      if (!isLetter(letter) || what < 0 || what > 1) return BAD;
      if (text.length() == 48) return FULL;
      String then = text + (char) letter;
      return what == 0 ? longestEnd(then).length() : nodes(then).size() - nodes(text).size();
    }

    static List<String> rows(int n) {
      List<String> rows = new ArrayList<>(List.of(""));
      for (int i = 0; i < n; i++) {
        List<String> longer = new ArrayList<>();
        for (String row : rows) {
          for (char c = 'a'; c <= 'f'; c++) {
            longer.add(row + c);
          }
        }
        rows = longer;
      }
      return rows;
    }

    /** Nodes that a row brings: palindromes that end in it and stood nowhere ahead. */
    int brought(String row) {
      Set<String> more = new TreeSet<>();
      String then = text + row;
      for (int j = text.length() + 1; j <= then.length(); j++) {
        for (int i = 0; i < j; i++) {
          String end = then.substring(i, j);
          if (isPalindrome(end) && !text.contains(end)) {
            more.add(end);
          }
        }
      }
      return more.size();
    }

    int grow(int n, int k) {
      if (n < 0 || n > 3 || k < -1) return BAD;
      if (text.length() + n > 48) return FULL;
      String first = null;
      int most = -1;
      for (String row : rows(n)) {
        int more = brought(row);
        if (more > most) {
          most = more;
          first = row;
        }
      }
      if (k == -1) return nodes(text + first).size();
      return k < n ? first.charAt(k) : NONE;
    }

    int odds(int n, int m, int what) {
      if (n < 0 || n > 4 || m < 0 || m > 9 || what < 0 || what > 1) return BAD;
      if (text.length() + n > 48) return FULL;
      int above = 0;
      int below = 0;
      for (String row : rows(n)) {
        above += brought(row) >= m ? 1 : 0;
        below++;
      }
      for (int d = below; d > 1; d--) {
        if (above % d == 0 && below % d == 0) {
          above /= d;
          below /= d;
        }
      }
      return what == 0 ? above : below;
    }

    int walks(int n, int seed, int what) {
      if (n < 0 || n > 60 || seed < 1 || seed > 999999 || what < 0 || what > 1) return BAD;
      String walked = text;
      long x = seed;
      for (int i = 0; i < n; i++) {
        x = (16807 * x) % 2147483647L;
        if (((x / 64) % 4 == 0 && !walked.isEmpty()) || walked.length() == 48) {
          walked = walked.substring(0, walked.length() - 1);
        } else {
          walked += "abcdef".charAt((int) (x % 6));
        }
      }
      return what == 0 ? nodes(walked).size() : walked.length();
    }

    int feed(int letter) {
      if (letter < 0 || letter > 255) return BAD;
      if (tape.length() == 48) return FULL;
      tape += (char) letter;
      return tape.length();
    }

    int clear() {
      int had = tape.length();
      tape = "";
      return had;
    }

    int find() {
      int node = nodes(text).indexOf(tape);
      return node < 0 ? NONE : node;
    }

    int times() { return tape.isEmpty() ? 0 : places(text, tape).size(); }

    static boolean isSheet(int sheet) { return sheet >= 0 && sheet < 4; }

    int sheet(int sheet, int lane, int n) {
      if (!isSheet(sheet) || lane < 0 || lane > 3 || n > 48) return BAD;
      if (n < 0) return SIZE;
      sheets[sheet] = new long[n];
      lanes[sheet] = lane;
      return n;
    }

    int drop(int sheet) {
      if (!isSheet(sheet)) return BAD;
      if (sheets[sheet] == null) return NULL;
      int had = sheets[sheet].length;
      sheets[sheet] = null;
      return had;
    }

    static long lowest(int lane, long v) {
      long low = v & 0xFFFF;
      switch (lane) {
        case 0: return low;
        case 1: return low >= 32768 ? low - 65536 : low;
        case 2: return (v << 32) >> 32;
        default: return v;
      }
    }

    long item(int sheet, int lane, int i, long v) {
      if (!isSheet(sheet) || lane < 0 || lane > 3) return BAD;
      if (sheets[sheet] == null) return NULL;
      if (lanes[sheet] != lane) return CAST;
      if (i < 0 || i >= sheets[sheet].length) return INDEX;
      sheets[sheet][i] = lowest(lane, v);
      return sheets[sheet][i];
    }

    int copy(int from, int i, int to, int j, int n) {
      if (!isSheet(from) || !isSheet(to)) return BAD;
      if (sheets[from] == null || sheets[to] == null) return NULL;
      if (lanes[from] != lanes[to]) return CAST;
      if (n < 0 || i < 0 || j < 0) return INDEX;
      if ((long) i + n > sheets[from].length || (long) j + n > sheets[to].length) return INDEX;
      long[] taken = Arrays.copyOfRange(sheets[from], i, i + n);
      for (int k = 0; k < n; k++) {
        sheets[to][j + k] = taken[k];
      }
      return n;
    }

    int spell(int node, int sheet, int lane, int i) {
      List<String> nodes = nodes(text);
      if (node < 0 || node >= nodes.size() || !isSheet(sheet) || lane < 0 || lane > 3) return BAD;
      if (sheets[sheet] == null) return NULL;
      if (lanes[sheet] != lane) return CAST;
      String row = nodes.get(node);
      if (i < 0 || (long) i + row.length() > sheets[sheet].length) return INDEX;
      for (int k = 0; k < row.length(); k++) {
        sheets[sheet][i + k] = row.charAt(k);
      }
      return row.length();
    }

    int read(int sheet, int lane, int i, int n) {
      if (!isSheet(sheet) || lane < 0 || lane > 3 || n < 0 || n > 48) return BAD;
      if (sheets[sheet] == null) return NULL;
      if (lanes[sheet] != lane) return CAST;
      if (i < 0 || (long) i + n > sheets[sheet].length) return INDEX;
      StringBuilder longer = new StringBuilder(tape);
      for (int k = 0; k < n; k++) {
        long v = sheets[sheet][i + k];
        if (v < 0 || v > 255) return NOT;
        longer.append((char) v);
      }
      if (longer.length() > 48) return FULL;
      tape = longer.toString();
      return tape.length();
    }

    int count(int what) {
      List<String> nodes = nodes(text);
      switch (what) {
        case 0: return text.length();
        case 1: return nodes.size();
        case 2: return nodes.stream().mapToInt(row -> places(text, row).size()).sum();
        case 3: return (int) nodes.stream().filter(row -> row.length() % 2 == 0).count();
        case 4: return nodes.stream().mapToInt(String::length).max().orElse(0);
        case 5: return nodes.size() == text.length() ? 1 : 0;
        case 6: return earlier.size();
        case 7: return tape.length();
        default: return BAD;
      }
    }
  }
}
