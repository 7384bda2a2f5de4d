import java.util.Set;
import java.util.TreeSet;

/** What the tests of the edges share: each sentence of the document that names an edge is a test of its own. */
abstract class Edges {
  static final int BAD = -1, NOT = -2, FULL = -3, NONE = -4, NULL = -11, CAST = -12, INDEX = -13, SIZE = -14;
  static final int LOW = Integer.MIN_VALUE, HIGH = Integer.MAX_VALUE;

  /** 48 letters, no two neighbours alike, no palindrome but the six letters. */
  static final String PLAIN = "abcdef".repeat(8);
  static final String SAME = "a".repeat(48);
  /** 48 letters that are one palindrome, with 48 nodes. */
  static final String RICH = "abacabadabacabaeabacabad" + "dabacabaeabacabadabacaba";

  /** A run of calls, or one, on an object. */
  interface Call {
    long on(MirrorNodes x);
  }

  static final Held NEW = new Held("");
  /** Some of everything: acts of each kind, image 0, a tape, two sheets, one of no items, one that is nothing. */
  static final Held SOME = new Held("bacab",
      x -> putAll(x, "abba"), x -> x.keep(0), x -> x.change(1, 'c'), x -> putAll(x, "cf"), x -> x.pop(),
      x -> putAll(x, "ab"), x -> x.undo(), x -> putAll(x, "bb"), x -> feedAll(x, "bacab"),
      x -> x.sheet(0, 0, 3), x -> x.item(0, 0, 0, 'a'), x -> x.item(0, 0, 1, 'b'), x -> x.item(0, 0, 2, 300),
      x -> x.sheet(1, 3, 5), x -> x.item(1, 3, 0, 'c'), x -> x.item(1, 3, 1, -1), x -> x.item(1, 3, 3, 256),
      x -> x.item(1, 3, 4, 'd'), x -> x.sheet(3, 1, 0));
  static final String SOME_TEXT = "acbacabb";
  /** All of everything: 48 letters, both images, the tape and the four sheets, one of each lane, full of them. */
  static final Held ALL = new Held(RICH,
      x -> putAll(x, RICH), x -> x.keep(0), x -> x.keep(1),
      x -> x.sheet(0, 0, 48), x -> x.sheet(1, 1, 48), x -> x.sheet(2, 2, 48), x -> x.sheet(3, 3, 48),
      x -> x.spell(47, 0, 0, 0), x -> x.spell(47, 1, 1, 0), x -> x.spell(47, 2, 2, 0), x -> x.spell(47, 3, 3, 0),
      x -> x.read(0, 0, 0, 48));

  private static final Set<Integer> promises = new TreeSet<>();
  private static int sentences = 0;
  private static int wrong = 0;
  private static String now = "";

  /** One sentence and its test; a broken sentence is told with its own words. */
  static void sentence(int promise, String words, Runnable test) {
    promises.add(promise);
    sentences++;
    now = "promise " + promise + ", " + words;
    test.run();
  }

  static void due(String call, long got, long want) {
    if (got != want) {
      tell(call + " answered " + got + ", due is " + want);
    }
  }

  static void dueText(String call, MirrorNodes x, String want) {
    String got = textOf(x);
    if (!got.equals(want)) {
      tell(call + ": the text is " + got + ", due is " + want);
    }
  }

  /** The answer of a call that changes nothing, be it refused or a question, and that it changes nothing. */
  static void stays(String call, Held held, Call asked, long want) {
    for (int v = 0; v < Held.VIEWS; v++) {
      MirrorNodes x = held.make();
      long got = asked.on(x);
      if (got != want) {
        due(call, got, want);
        return;
      }
      String seen = held.view(v, x);
      if (!seen.equals(held.untouched(v))) {
        tell(call + " left " + seen + ", due is " + held.untouched(v));
      }
    }
  }

  private static void tell(String fault) {
    wrong++;
    System.out.println(now + ": " + fault);
  }

  static void end(int first, int last) {
    for (int p = first; p <= last; p++) {
      if (!promises.contains(p)) {
        now = "promise " + p;
        tell("has no test");
      }
    }
    System.out.println(wrong == 0 ? sentences + " sentences hold" : wrong + " answers are not as due");
    if (wrong != 0) {
      System.exit(1);
    }
  }

  static MirrorNodes of(String text) {
    MirrorNodes x = new MirrorNodes();
    putAll(x, text);
    return x;
  }

  static MirrorNodes of(String text, String tape) {
    MirrorNodes x = of(text);
    feedAll(x, tape);
    return x;
  }

  static long putAll(MirrorNodes x, String letters) {
    long last = 0;
    for (int i = 0; i < letters.length(); i++) {
      last = x.put(letters.charAt(i));
    }
    return last;
  }

  static long feedAll(MirrorNodes x, String bytes) {
    long last = 0;
    for (int i = 0; i < bytes.length(); i++) {
      last = x.feed(bytes.charAt(i));
    }
    return last;
  }

  /** Makes the text another one by acts. */
  static void write(MirrorNodes x, String text) {
    for (int i = 0; i < 48 && x.pop() >= 0; i++) {
      continue;
    }
    putAll(x, text);
  }

  static String textOf(MirrorNodes x) {
    StringBuilder text = new StringBuilder();
    for (int place = 0; place < 48 && x.letter(place) >= 0; place++) {
      text.append((char) x.letter(place));
    }
    return text.toString();
  }

  /** The items of a sheet that are letters, a dot for another byte, a bar for what is no byte; changes the object. */
  static String itemsOf(MirrorNodes x, int sheet, int lane) {
    write(x, "abcdef");
    StringBuilder items = new StringBuilder();
    for (int i = 0; i < 48; i++) {
      x.clear();
      int read = x.read(sheet, lane, i, 1);
      if (read == NOT) {
        items.append('|');
      } else if (read == 1) {
        int node = x.find();
        items.append(node < 0 ? '.' : (char) ('a' + node));
      } else {
        break;
      }
    }
    return items.toString();
  }

  static void dueItems(String call, MirrorNodes x, int sheet, int lane, String want) {
    String got = itemsOf(x, sheet, lane);
    if (!got.equals(want)) {
      tell(call + ": sheet " + sheet + " holds " + got + ", due is " + want);
    }
  }
}
