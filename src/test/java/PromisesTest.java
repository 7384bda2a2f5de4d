import java.util.Locale;

/** Each promise of the document by itself: ordinary inputs, the edges that it names, wrong inputs. */
public final class PromisesTest {
  private static final int BAD = -1, NOT = -2, FULL = -3, NONE = -4, NULL = -11, CAST = -12, INDEX = -13, SIZE = -14;
  private static final int PROMISES = 32;
  private static final int LOW = Integer.MIN_VALUE, HIGH = Integer.MAX_VALUE;
  private static final String FULL_TEXT = "abcdefabcdefabcdefabcdefabcdefabcdefabcdefabcdef";

  private static final int[] asked = new int[PROMISES + 1];
  private static int wrong = 0;

  private static void due(int promise, String what, long got, long want) {
    asked[promise]++;
    if (got != want) {
      wrong++;
      System.out.println(String.format(Locale.ROOT, "promise %d: %s answered %d, due is %d", promise, what, got, want));
    }
  }

  private static MirrorNodes of(String text) {
    MirrorNodes x = new MirrorNodes();
    for (int i = 0; i < text.length(); i++) {
      x.put(text.charAt(i));
    }
    return x;
  }

  private static void feed(MirrorNodes x, String row) {
    x.clear();
    for (int i = 0; i < row.length(); i++) {
      x.feed(row.charAt(i));
    }
  }

  private static String textOf(MirrorNodes x) {
    StringBuilder text = new StringBuilder();
    for (int i = 0; i < x.count(0); i++) {
      text.append((char) x.letter(i));
    }
    return text.toString();
  }

  private static void dueText(int promise, String what, MirrorNodes x, String want) {
    String got = textOf(x);
    asked[promise]++;
    if (!got.equals(want)) {
      wrong++;
      System.out.println("promise " + promise + ": " + what + " left the text " + got + ", due is " + want);
    }
  }

  public static void main(String[] args) {
    newObject();
    put();
    pop();
    change();
    undo();
    letter();
    node();
    images();
    ends();
    groups();
    cuts();
    evens();
    in();
    mend();
    turned();
    next();
    grow();
    odds();
    walks();
    tape();
    sheetAndDrop();
    item();
    copy();
    spell();
    read();
    count();
    for (int p = 1; p <= PROMISES; p++) {
      if (asked[p] == 0) {
        wrong++;
        System.out.println("promise " + p + " is not asked");
      }
    }
    System.out.println(wrong == 0 ? "all promises hold" : wrong + " answers are not as due");
    if (wrong != 0) {
      System.exit(1);
    }
  }

  private static void newObject() {
    MirrorNodes x = new MirrorNodes();
    for (int what = 0; what < 8; what++) {
      due(1, "count(" + what + ")", x.count(what), what == 5 ? 1 : 0);
    }
    due(1, "undo()", x.undo(), NONE);
    due(1, "back(0)", x.back(0), NOT);
    due(1, "back(1)", x.back(1), NOT);
    for (int sheet = 0; sheet < 4; sheet++) {
      due(1, "drop(" + sheet + ")", x.drop(sheet), NULL);
    }
    MirrorNodes other = of("ab");
    due(1, "count(0) of one of two objects", x.count(0), 0);
    due(1, "count(0) of the other", other.count(0), 2);
  }

  private static void put() {
    MirrorNodes x = new MirrorNodes();
    String text = "abacabaaab";
    int[] longest = {1, 1, 3, 1, 3, 5, 7, 2, 3, 5};
    for (int i = 0; i < text.length(); i++) {
      due(2, "put(" + text.charAt(i) + ") as letter " + i, x.put(text.charAt(i)), longest[i]);
    }
    for (int letter : new int[] {96, 103, 0, 'A', -97, 97 + 256, LOW, HIGH}) {
      due(2, "put(" + letter + ")", x.put(letter), BAD);
    }
    dueText(2, "refused put", x, text);
    MirrorNodes full = of(FULL_TEXT);
    due(2, "put(a) on 48", full.put('a'), FULL);
    due(2, "put(96) on 48", full.put(96), BAD);
    dueText(2, "put on 48", full, FULL_TEXT);
    due(2, "acts after a refused put", full.undo(), 23);
  }

  private static void pop() {
    MirrorNodes x = of("abf");
    due(3, "pop()", x.pop(), 'f');
    due(3, "nodes after pop", x.count(1), 2);
    due(3, "pop()", x.pop(), 'b');
    due(3, "put(a) after pop", x.put('a'), 2);
    due(3, "pop()", x.pop(), 'a');
    due(3, "pop()", x.pop(), 'a');
    due(3, "pop() of none", x.pop(), NOT);
    due(3, "acts after a refused pop", x.count(6), 8);
    MirrorNodes twice = of("abaaba");
    twice.pop();
    due(3, "nodes left, as the letter taken off had made one", twice.count(1), 5);
    due(3, "put again makes it again", twice.put('a'), 6);
    due(3, "nodes again", twice.count(1), 6);
  }

  private static void change() {
    MirrorNodes x = of("abcd");
    due(4, "change(0, d)", x.change(0, 'd'), 'a');
    dueText(4, "change", x, "dbcd");
    due(4, "change(2, b)", x.change(2, 'b'), 'c');
    due(4, "longest of dbbd", x.count(4), 4);
    due(4, "nodes of dbbd", x.count(1), 4);
    due(4, "change(3, d) to the same", x.change(3, 'd'), NOT);
    due(4, "change(4, a)", x.change(4, 'a'), BAD);
    due(4, "change(-1, a)", x.change(-1, 'a'), BAD);
    due(4, "change(0, 96)", x.change(0, 96), BAD);
    due(4, "change(0, 103)", x.change(0, 103), BAD);
    due(4, "change(LOW, a)", x.change(LOW, 'a'), BAD);
    due(4, "change(HIGH, a)", x.change(HIGH, 'a'), BAD);
    dueText(4, "refused change", x, "dbbd");
    due(4, "acts after refused changes", x.count(6), 6);
    due(4, "change on 48", of(FULL_TEXT).change(47, 'a'), 'f');
  }

  private static void undo() {
    MirrorNodes x = of("ab");
    x.change(0, 'c');
    x.pop();
    x.put('d');
    due(5, "undo put", x.undo(), 4);
    dueText(5, "undo put", x, "c");
    due(5, "undo pop", x.undo(), 3);
    dueText(5, "undo pop", x, "cb");
    due(5, "undo change", x.undo(), 2);
    dueText(5, "undo change", x, "ab");
    due(5, "put behind undo", x.put('a'), 3);
    due(5, "undo", x.undo(), 2);
    due(5, "undo", x.undo(), 1);
    due(5, "undo", x.undo(), 0);
    due(5, "undo of none", x.undo(), NONE);
    dueText(5, "all undone", x, "");
    MirrorNodes many = of(FULL_TEXT.substring(0, 30));
    due(5, "24 can be undone", many.count(6), 24);
    for (int left = 23; left >= 0; left--) {
      due(5, "undo of 24", many.undo(), left);
    }
    due(5, "undo of the 25th", many.undo(), NONE);
    dueText(5, "24 undone of 30", many, "abcdef");
    MirrorNodes mixed = of(FULL_TEXT.substring(0, 20));
    mixed.change(3, 'a');
    mixed.pop();
    mixed.change(9, 'f');
    mixed.pop();
    for (int i = 0; i < 10; i++) {
      mixed.put('e');
    }
    for (int left = 23; left >= 0; left--) {
      mixed.undo();
    }
    dueText(5, "24 mixed acts undone of 34", mixed, FULL_TEXT.substring(0, 10));
    MirrorNodes full = of(FULL_TEXT);
    full.pop();
    due(5, "undo of a pop from 48", full.undo(), 23);
    dueText(5, "undo of a pop from 48", full, FULL_TEXT);
    MirrorNodes image = of("abc");
    image.keep(0);
    image.feed('a');
    image.sheet(0, 0, 1);
    due(5, "what is no act is not undone", image.undo(), 2);
    due(5, "the tape stays", image.count(7), 1);
    due(5, "the sheet stays", image.drop(0), 1);
  }

  private static void letter() {
    MirrorNodes x = of("afb");
    due(6, "letter(0)", x.letter(0), 97);
    due(6, "letter(1)", x.letter(1), 102);
    due(6, "letter(2)", x.letter(2), 98);
    for (int place : new int[] {-1, 3, 48, LOW, HIGH}) {
      due(6, "letter(" + place + ")", x.letter(place), BAD);
    }
    x.pop();
    due(6, "letter(2) taken off", x.letter(2), BAD);
    due(6, "letter(0) of none", new MirrorNodes().letter(0), BAD);
  }

  private static void node() {
    MirrorNodes x = of("aabaaabaa");
    // a, aa, b, aba, aabaa, aaa, baaab, abaaaba, aabaaabaa
    int[][] nodes = {
      {1, 0, 8, 7, NONE, 1, NONE, NONE},
      {2, 0, 7, 4, 0, 1, NONE, NONE},
      {1, 2, 6, 2, NONE, 1, NONE, NONE},
      {3, 1, 5, 2, 0, 2, 0, 2},
      {5, 0, 4, 2, 1, 3, 1, 3},
      {3, 3, 3, 1, 1, 1, NONE, 0},
      {5, 2, 2, 1, 2, 4, 2, 5},
      {7, 1, 1, 1, 3, 4, 3, 6},
      {9, 0, 0, 1, 4, 4, 4, 7},
    };
    due(7, "nodes", x.count(1), nodes.length);
    for (int v = 0; v < nodes.length; v++) {
      for (int what = 0; what < 8; what++) {
        due(7, "node(" + v + ", " + what + ")", x.node(v, what), nodes[v][what]);
      }
      due(7, "node(" + v + ", -1)", x.node(v, -1), BAD);
      due(7, "node(" + v + ", 8)", x.node(v, 8), BAD);
    }
    for (int v : new int[] {-1, nodes.length, 48, 49, 50, LOW, HIGH}) {
      due(7, "node(" + v + ", 0)", x.node(v, 0), BAD);
      due(7, "node(" + v + ", 4)", x.node(v, 4), BAD);
    }
    due(7, "node(0, LOW)", x.node(0, LOW), BAD);
    due(7, "node(0, HIGH)", x.node(0, HIGH), BAD);
    MirrorNodes series = of("abababa");
    due(7, "SERIES passes the links that are as much longer", series.node(6, 6), 0);
    due(7, "LINK of the same", series.node(6, 4), 4);
    MirrorNodes renumbered = of("abc");
    renumbered.change(0, 'b');
    due(7, "numbers follow the text as it is: LONG of 1", renumbered.node(1, 0), 2);
    due(7, "LINK of 1", renumbered.node(1, 4), 0);
    due(7, "c is 2", renumbered.node(2, 1), 2);
  }

  private static void images() {
    MirrorNodes x = of("abba");
    due(8, "keep(-1)", x.keep(-1), BAD);
    due(8, "keep(2)", x.keep(2), BAD);
    due(8, "keep(0)", x.keep(0), 4);
    due(9, "back(1) not kept", x.back(1), NOT);
    due(9, "back(2)", x.back(2), BAD);
    due(9, "back(-1)", x.back(-1), BAD);
    due(10, "common(1, 0) not kept", x.common(1, 0), NOT);
    due(10, "common(1, 2) of what there is not", x.common(1, 2), BAD);
    due(10, "common(0, -1)", x.common(0, -1), BAD);
    due(10, "common(2, 0)", x.common(2, 0), BAD);
    due(10, "common(-1, 0)", x.common(-1, 0), BAD);
    due(10, "common with itself", x.common(0, 0), 4);
    due(10, "longest with itself", x.common(0, 1), 4);
    x.change(3, 'c');
    due(10, "abbc with abba: a, b, bb", x.common(0, 0), 3);
    due(10, "the longest is bb", x.common(0, 1), 2);
    due(8, "keep(1)", x.keep(1), 4);
    due(9, "back(0)", x.back(0), 4);
    dueText(9, "back(0)", x, "abba");
    due(9, "nothing can be undone", x.undo(), NONE);
    due(9, "count(6)", x.count(6), 0);
    due(9, "nodes of abba", x.count(1), 4);
    due(9, "back(1)", x.back(1), 4);
    dueText(9, "back(1)", x, "abbc");
    x.put('c');
    due(8, "an image is kept anew", x.keep(1), 5);
    x.pop();
    due(9, "back(1) anew", x.back(1), 5);
    dueText(9, "back(1) anew", x, "abbcc");
    dueText(9, "back leaves the image", backOnceMore(x), "abbcc");
    keepOfNone();
  }

  private static MirrorNodes backOnceMore(MirrorNodes x) {
    x.pop();
    x.back(1);
    return x;
  }

  private static void keepOfNone() {
    MirrorNodes x = new MirrorNodes();
    due(8, "keep of no letters", x.keep(1), 0);
    x.put('a');
    due(10, "common with an image of none", x.common(1, 0), 0);
    due(10, "longest with an image of none", x.common(1, 1), 0);
    due(9, "back to none", x.back(1), 0);
    due(9, "letters then", x.count(0), 0);
    MirrorNodes apart = of("abc");
    apart.keep(0);
    apart.clear();
    MirrorNodes full = of(FULL_TEXT);
    due(8, "keep of 48", full.keep(0), 48);
    due(9, "back to 48", full.back(0), 48);
    dueText(9, "back to 48", full, FULL_TEXT);
    apart.change(0, 'd');
    apart.change(1, 'd');
    apart.change(2, 'd');
    due(10, "nothing in common", apart.common(0, 0), 0);
    due(10, "longest of nothing", apart.common(0, 1), 0);
  }

  private static void ends() {
    MirrorNodes x = of("cabaaba");
    due(11, "ends(6, -1)", x.ends(6, -1), 3);
    due(11, "ends(6, 0)", x.ends(6, 0), 6);
    due(11, "ends(6, 1)", x.ends(6, 1), 3);
    due(11, "ends(6, 2)", x.ends(6, 2), 1);
    due(11, "ends(6, 3)", x.ends(6, 3), NONE);
    due(11, "ends(6, HIGH)", x.ends(6, HIGH), NONE);
    due(11, "ends(0, -1)", x.ends(0, -1), 1);
    due(11, "ends(3, 0)", x.ends(3, 0), 3);
    due(11, "ends(6, -2)", x.ends(6, -2), BAD);
    due(11, "ends(6, LOW)", x.ends(6, LOW), BAD);
    due(11, "ends(7, 0)", x.ends(7, 0), BAD);
    due(11, "ends(7, 9)", x.ends(7, 9), BAD);
    due(11, "ends(-1, 0)", x.ends(-1, 0), BAD);
  }

  private static void groups() {
    MirrorNodes x = of("aabaaabaa");
    due(12, "groups(8): aabaaabaa less 4, aabaa less 3, aa less 1", x.groups(8), 3);
    due(12, "groups(1)", x.groups(1), 1);
    due(12, "groups(3): aba less 2, a less 1", x.groups(3), 2);
    due(12, "groups(0)", x.groups(0), 1);
    due(12, "groups of abababa: less 2 thrice, a", of("abababa").groups(6), 2);
    for (int place : new int[] {-1, 9, LOW, HIGH}) {
      due(12, "groups(" + place + ")", x.groups(place), BAD);
    }
  }

  private static void cuts() {
    MirrorNodes x = of("aab");
    due(13, "cuts(3, -1)", x.cuts(3, -1), 2);
    due(13, "cuts(3, 0)", x.cuts(3, 0), 2);
    due(13, "cuts(3, 1)", x.cuts(3, 1), 1);
    due(13, "cuts(3, 2)", x.cuts(3, 2), NONE);
    due(13, "cuts(3, HIGH)", x.cuts(3, HIGH), NONE);
    due(13, "cuts(2, 0)", x.cuts(2, 0), 2);
    due(13, "cuts(0, -1)", x.cuts(0, -1), 0);
    due(13, "cuts(0, 0)", x.cuts(0, 0), NONE);
    for (int n : new int[] {-1, 4, LOW, HIGH}) {
      due(13, "cuts(" + n + ", -1)", x.cuts(n, -1), BAD);
    }
    due(13, "cuts(3, -2)", x.cuts(3, -2), BAD);
    due(13, "cuts(3, LOW)", x.cuts(3, LOW), BAD);
    // abaca: aba c a, or a b aca; the way with the shorter first piece is told
    MirrorNodes two = of("abaca");
    int[] way = {1, 1, 3};
    due(13, "abaca", two.cuts(5, -1), 3);
    for (int k = 0; k < 3; k++) {
      due(13, "abaca, piece " + k, two.cuts(5, k), way[k]);
    }
    // aabaab: baab at the end or aabaa at the start, both two pieces
    MirrorNodes either = of("aabaab");
    due(13, "aabaab", either.cuts(6, -1), 2);
    due(13, "aabaab, the first", either.cuts(6, 0), 2);
    due(13, "aabaab, the second", either.cuts(6, 1), 4);
    due(13, "48 unlike neighbours", of(FULL_TEXT).cuts(48, -1), 48);
    due(13, "the last of 48", of(FULL_TEXT).cuts(48, 47), 1);
    due(13, "none behind it", of(FULL_TEXT).cuts(48, 48), NONE);
  }

  private static void evens() {
    MirrorNodes x = of("aabbaaccdeed");
    due(14, "evens(0)", x.evens(0), 0);
    due(14, "evens(1)", x.evens(1), NONE);
    due(14, "evens(2)", x.evens(2), 1);
    due(14, "evens(4): aa bb", x.evens(4), 2);
    due(14, "evens(5)", x.evens(5), NONE);
    due(14, "evens(6): aabbaa", x.evens(6), 1);
    due(14, "evens(8): aabbaa cc", x.evens(8), 2);
    due(14, "evens(10)", x.evens(10), NONE);
    due(14, "evens(12): aabbaa cc deed", x.evens(12), 3);
    for (int n : new int[] {-1, 13, LOW, HIGH}) {
      due(14, "evens(" + n + ")", x.evens(n), BAD);
    }
  }

  private static void in() {
    MirrorNodes x = of("abacabadd");
    due(15, "in(0, 9, 0)", x.in(0, 9, 0), 7);
    due(15, "in(0, 9, 1)", x.in(0, 9, 1), 0);
    due(15, "in(0, 9, 2): a b aba c aca bacab abacaba d dd", x.in(0, 9, 2), 9);
    due(15, "in(1, 7, 0): bacab", x.in(1, 7, 0), 5);
    due(15, "in(1, 7, 1)", x.in(1, 7, 1), 1);
    due(15, "in(0, 5, 0): aba ahead of aca", x.in(0, 5, 0), 3);
    due(15, "in(0, 5, 1)", x.in(0, 5, 1), 0);
    due(15, "in(2, 9, 1): aca", x.in(2, 9, 1), 2);
    due(15, "in(8, 9, 1)", x.in(8, 9, 1), 8);
    due(15, "in(5, 9, 1): dd, not at the span's start", x.in(5, 9, 1), 7);
    due(15, "in(4, 4, 0)", x.in(4, 4, 0), 0);
    due(15, "in(4, 4, 1)", x.in(4, 4, 1), NONE);
    due(15, "in(9, 9, 2)", x.in(9, 9, 2), 0);
    due(15, "in(-1, 3, 0)", x.in(-1, 3, 0), BAD);
    due(15, "in(3, 2, 0)", x.in(3, 2, 0), BAD);
    due(15, "in(3, 10, 0)", x.in(3, 10, 0), BAD);
    due(15, "in(10, 10, 0)", x.in(10, 10, 0), BAD);
    due(15, "in(0, 9, 3)", x.in(0, 9, 3), BAD);
    due(15, "in(0, 9, -1)", x.in(0, 9, -1), BAD);
    due(15, "in(LOW, HIGH, 0)", x.in(LOW, HIGH, 0), BAD);
    dueText(15, "in", x, "abacabadd");
  }

  private static void mend() {
    MirrorNodes x = of("abcda");
    due(16, "mend(0): b or d", x.mend(0), 1);
    due(16, "mend(1)", x.mend(1), 2);
    due(16, "mend(2)", x.mend(2), BAD);
    due(16, "mend(-1)", x.mend(-1), BAD);
    due(16, "mend(0) of ab", of("ab").mend(0), 1);
    due(16, "mend(1) of ab", of("ab").mend(1), 1);
    due(16, "mend(0) of aab", of("aab").mend(0), 1);
    due(16, "mend(1) of aab", of("aab").mend(1), 1);
    due(16, "mend(0) of abcabc", of("abcabc").mend(0), 2);
    due(16, "mend(1) of abcabc: abcbacba and the like", of("abcabc").mend(1), 3);
    due(16, "mend(0) of abcba", of("abcba").mend(0), 0);
    due(16, "mend(1) of abcba", of("abcba").mend(1), 0);
    due(16, "acts after questions", x.count(6), 5);
    for (int left = 4; left >= 1; left--) {
      x.pop();
    }
    due(16, "mend(1) of one letter, asked after a longer text", x.mend(1), 0);
    due(16, "mend(0) of none", new MirrorNodes().mend(0), 0);
    due(16, "mend(1) of none", new MirrorNodes().mend(1), 0);
  }

  private static void turned() {
    MirrorNodes x = of("aab");
    due(17, "turned(0) of aab: aba", x.turned(0), 1);
    due(17, "turned(1) of aab", x.turned(1), 1);
    due(17, "turned(2)", x.turned(2), BAD);
    due(17, "turned(-1)", x.turned(-1), BAD);
    due(17, "turned(0) of abba: abba, baab", of("abba").turned(0), 2);
    due(17, "turned(1) of abba", of("abba").turned(1), 0);
    due(17, "turned(1) of bbaa: baab", of("bbaa").turned(1), 1);
    due(17, "turned(0) of abc", of("abc").turned(0), 0);
    due(17, "turned(1) of abc", of("abc").turned(1), NONE);
    due(17, "turned(0) of a", of("a").turned(0), 1);
    due(17, "turned(0) of none", new MirrorNodes().turned(0), 0);
    due(17, "turned(1) of none", new MirrorNodes().turned(1), NONE);
  }

  private static void next() {
    MirrorNodes x = of("abab");
    due(18, "next(a, 0)", x.next('a', 0), 5);
    due(18, "next(a, 1)", x.next('a', 1), 1);
    due(18, "next(b, 0)", x.next('b', 0), 2);
    due(18, "next(c, 0)", x.next('c', 0), 1);
    due(18, "next(c, 1)", x.next('c', 1), 1);
    due(18, "no node more", of("abca").next('b', 1), 0);
    due(18, "its length", of("abca").next('b', 0), 1);
    due(18, "next(96, 0)", x.next(96, 0), BAD);
    due(18, "next(103, 0)", x.next(103, 0), BAD);
    due(18, "next(a, 2)", x.next('a', 2), BAD);
    due(18, "next(a, -1)", x.next('a', -1), BAD);
    MirrorNodes full = of(FULL_TEXT);
    due(18, "next(a, 0) on 48", full.next('a', 0), FULL);
    due(18, "next(a, 2) on 48", full.next('a', 2), BAD);
    dueText(18, "next", x, "abab");
    due(18, "nodes", x.count(1), 4);
    due(18, "acts", x.count(6), 4);
  }

  private static void grow() {
    MirrorNodes x = of("cba");
    due(19, "grow(0, -1)", x.grow(0, -1), 3);
    due(19, "grow(0, 0)", x.grow(0, 0), NONE);
    due(19, "grow(1, 0): aa is new", x.grow(1, 0), 'a');
    due(19, "grow(1, -1)", x.grow(1, -1), 4);
    due(19, "grow(3, -1)", x.grow(3, -1), 6);
    due(19, "grow(3, 0)", x.grow(3, 0), 'a');
    due(19, "grow(3, 1)", x.grow(3, 1), 'a');
    due(19, "grow(3, 2)", x.grow(3, 2), 'a');
    due(19, "grow(3, 3)", x.grow(3, 3), NONE);
    due(19, "grow(3, HIGH)", x.grow(3, HIGH), NONE);
    due(19, "a and b bring none, c brings cac", of("aabca").grow(1, 0), 'c');
    due(19, "nodes then", of("aabca").grow(1, -1), 5);
    // abc three times: only the mirror cba brings one with each letter, or letters not yet there
    due(19, "the first of several rows", of("abcabcabc").grow(2, 0), 'b');
    due(19, "its second letter", of("abcabcabc").grow(2, 1), 'a');
    due(19, "grow(-1, 0)", x.grow(-1, 0), BAD);
    due(19, "grow(4, 0)", x.grow(4, 0), BAD);
    due(19, "grow(1, -2)", x.grow(1, -2), BAD);
    due(19, "grow(LOW, LOW)", x.grow(LOW, LOW), BAD);
    MirrorNodes almost = of(FULL_TEXT.substring(0, 46));
    due(19, "grow(2, 0) on 46: d at the end, c d c", almost.grow(2, 0), 'c');
    due(19, "grow(2, 1) on 46", almost.grow(2, 1), 'b');
    due(19, "grow(3, 0) on 46", almost.grow(3, 0), FULL);
    due(19, "grow(4, 0) on 46", almost.grow(4, 0), BAD);
    due(19, "grow(0, -1) on 48", of(FULL_TEXT).grow(0, -1), 6);
    dueText(19, "grow", x, "cba");
    due(19, "acts", x.count(6), 3);
  }

  private static void odds() {
    MirrorNodes x = of("abc");
    // letters a to f: only a repeats what is there (1 place), b gives bcb, c gives cc, d e f are new
    due(20, "odds(1, 1, 0)", x.odds(1, 1, 0), 5);
    due(20, "odds(1, 1, 1)", x.odds(1, 1, 1), 6);
    due(20, "odds(1, 0, 0)", x.odds(1, 0, 0), 1);
    due(20, "odds(1, 0, 1)", x.odds(1, 0, 1), 1);
    due(20, "odds(1, 2, 0)", x.odds(1, 2, 0), 0);
    due(20, "odds(1, 2, 1)", x.odds(1, 2, 1), 1);
    due(20, "odds(0, 0, 0)", x.odds(0, 0, 0), 1);
    due(20, "odds(0, 0, 1)", x.odds(0, 0, 1), 1);
    due(20, "odds(4, 9, 0)", x.odds(4, 9, 0), 0);
    due(20, "odds(4, 9, 1)", x.odds(4, 9, 1), 1);
    int[][] bad = {{-1, 0, 0}, {5, 0, 0}, {0, -1, 0}, {0, 10, 0}, {0, 0, -1}, {0, 0, 2}, {LOW, HIGH, LOW}};
    for (int[] b : bad) {
      due(20, "odds of bad numbers", x.odds(b[0], b[1], b[2]), BAD);
    }
    MirrorNodes almost = of(FULL_TEXT.substring(0, 45));
    due(20, "odds(4, 0, 0) on 45", almost.odds(4, 0, 0), FULL);
    due(20, "odds(4, 10, 0) on 45", almost.odds(4, 10, 0), BAD);
    // ..abc: c brings cc, b brings bcb, no other letter anything
    due(20, "odds(1, 1, 0) on 45", almost.odds(1, 1, 0), 1);
    due(20, "odds(1, 1, 1) on 45", almost.odds(1, 1, 1), 3);
    due(20, "odds(3, 0, 0) on 45", almost.odds(3, 0, 0), 1);
    dueText(20, "odds", x, "abc");
  }

  private static void walks() {
    MirrorNodes x = of("ab");
    due(21, "walks(0, 1, 0)", x.walks(0, 1, 0), 2);
    due(21, "walks(0, 1, 1)", x.walks(0, 1, 1), 2);
    // X = 16807: by 64 262, by 4 leaves 2, so it is PUT; by 6 leaves 1: b
    due(21, "walks(1, 1, 1)", x.walks(1, 1, 1), 3);
    due(21, "walks(1, 1, 0): bb", x.walks(1, 1, 0), 3);
    // X = 16807 * 5 = 84035: by 64 1313, by 4 leaves 1; by 6 leaves 5: f
    due(21, "walks(1, 5, 0)", x.walks(1, 5, 0), 3);
    // X = 16807 * 256: by 64 67228, by 4 leaves 0, so the last one is taken OFF, if there is one
    due(21, "walks(1, 256, 1): taken off", x.walks(1, 256, 1), 1);
    due(21, "walks(1, 256, 1) of one letter: taken off", of("a").walks(1, 256, 1), 0);
    due(21, "walks(1, 256, 1) of none: put", new MirrorNodes().walks(1, 256, 1), 1);
    due(21, "walks(1, 1, 1) of 48: taken off", of(FULL_TEXT).walks(1, 1, 1), 47);
    due(21, "the greatest n and SEED are not BAD", x.walks(60, 999999, 1) >= 0 ? 1 : 0, 1);
    int[][] bad = {{-1, 1, 0}, {61, 1, 0}, {1, 0, 0}, {1, 1000000, 0}, {1, 1, 2}, {1, 1, -1}, {LOW, HIGH, LOW}};
    for (int[] b : bad) {
      due(21, "walks of bad numbers", x.walks(b[0], b[1], b[2]), BAD);
    }
    dueText(21, "walks", x, "ab");
    due(21, "acts", x.count(6), 2);
  }

  private static void tape() {
    MirrorNodes x = of("abaaba");
    due(22, "feed(-1)", x.feed(-1), BAD);
    due(22, "feed(256)", x.feed(256), BAD);
    due(22, "feed(0)", x.feed(0), 1);
    due(22, "feed(255)", x.feed(255), 2);
    due(23, "clear()", x.clear(), 2);
    due(23, "clear() of none", x.clear(), 0);
    due(24, "find() of none", x.find(), NONE);
    due(25, "times() of none", x.times(), 0);
    String[] rows = {"a", "b", "aba", "aa", "abaaba", "ab", "c", "aaa", "abaabaa", "ba", "a" + (char) 0};
    int[] nodes = {0, 1, 2, 3, 5, NONE, NONE, NONE, NONE, NONE, NONE};
    int[] times = {4, 2, 2, 1, 1, 2, 0, 0, 0, 2, 0};
    for (int r = 0; r < rows.length; r++) {
      feed(x, rows[r]);
      due(24, "find() of " + rows[r], x.find(), nodes[r]);
      due(25, "times() of " + rows[r], x.times(), times[r]);
    }
    MirrorNodes same = of("aaaa");
    feed(same, "aa");
    due(25, "places that overlap", same.times(), 3);
    feed(same, FULL_TEXT);
    due(22, "feed(a) on 48", same.feed('a'), FULL);
    due(22, "feed(256) on 48", same.feed(256), BAD);
    due(23, "clear() of 48", same.clear(), 48);
    MirrorNodes full = of(FULL_TEXT);
    feed(full, FULL_TEXT);
    due(25, "the whole text", full.times(), 1);
    due(24, "the whole text is no palindrome", full.find(), NONE);
  }

  private static void sheetAndDrop() {
    MirrorNodes x = new MirrorNodes();
    due(26, "sheet(0, 0, 0)", x.sheet(0, 0, 0), 0);
    due(26, "sheet(3, 3, 48)", x.sheet(3, 3, 48), 48);
    int[][] bad = {{-1, 0, 1}, {4, 0, 1}, {0, -1, 1}, {0, 4, 1}, {0, 0, 49}, {0, 0, HIGH}, {4, 0, -1}, {0, 4, -1}};
    for (int[] b : bad) {
      due(26, "sheet of bad numbers", x.sheet(b[0], b[1], b[2]), BAD);
    }
    due(26, "sheet(1, 0, -1)", x.sheet(1, 0, -1), SIZE);
    due(26, "sheet(3, 0, LOW)", x.sheet(3, 0, LOW), SIZE);
    due(27, "what is refused changes nothing", x.drop(3), 48);
    due(27, "drop(3) again", x.drop(3), NULL);
    due(27, "drop(0) of no items", x.drop(0), 0);
    due(27, "drop(1)", x.drop(1), NULL);
    due(27, "drop(-1)", x.drop(-1), BAD);
    due(27, "drop(4)", x.drop(4), BAD);
    x.sheet(2, 2, 2);
    x.item(2, 2, 0, 'a');
    x.item(2, 2, 1, 'b');
    due(26, "a new row in the place of one", x.sheet(2, 2, 2), 2);
    due(26, "its items are 0", x.read(2, 2, 0, 2), 2);
    x.put('a');
    due(26, "no a among them", x.times(), 0);
    due(26, "of another lane", x.sheet(2, 0, 3), 3);
    due(26, "taken as that", x.item(2, 0, 2, 7), 7);
  }

  private static void item() {
    MirrorNodes x = new MirrorNodes();
    for (int lane = 0; lane < 4; lane++) {
      x.sheet(lane, lane, 2);
    }
    long[] values = {-1, 65535, 65536, 32768, 0x180000000L, Long.MIN_VALUE, Long.MAX_VALUE, 97};
    long[][] kept = {
      {65535, 65535, 0, 32768, 0, 0, 65535, 97},
      {-1, -1, 0, -32768, 0, 0, -1, 97},
      {-1, 65535, 65536, 32768, Integer.MIN_VALUE, 0, -1, 97},
      values,
    };
    for (int lane = 0; lane < 4; lane++) {
      for (int v = 0; v < values.length; v++) {
        due(28, "item of lane " + lane + ", " + values[v], x.item(lane, lane, 1, values[v]), kept[lane][v]);
      }
      due(28, "another lane", x.item(lane, (lane + 1) % 4, 0, 1), CAST);
      due(28, "another lane and beyond", x.item(lane, (lane + 1) % 4, 9, 1), CAST);
    }
    for (int i : new int[] {-1, 2, 48, LOW, HIGH}) {
      due(28, "item " + i, x.item(0, 0, i, 1), INDEX);
    }
    due(28, "sheet -1", x.item(-1, 0, 0, 1), BAD);
    due(28, "sheet 4", x.item(4, 0, 0, 1), BAD);
    due(28, "lane -1", x.item(0, -1, 0, 1), BAD);
    due(28, "lane 4", x.item(0, 4, 0, 1), BAD);
    x.drop(0);
    due(28, "nothing", x.item(0, 1, 9, 1), NULL);
    due(28, "nothing, of no lane", x.item(0, 4, 9, 1), BAD);
  }

  private static MirrorNodes withSheet(String items, int lane, int n) {
    MirrorNodes x = new MirrorNodes();
    x.sheet(0, lane, n);
    for (int i = 0; i < items.length(); i++) {
      x.item(0, lane, i, items.charAt(i));
    }
    return x;
  }

  /** The tape shows a byte only by the node that it is, so the text becomes one of all six letters. */
  private static void dueItems(int promise, MirrorNodes x, int sheet, int lane, String want) {
    while (x.count(0) > 0) {
      x.pop();
    }
    for (char c = 'a'; c <= 'f'; c++) {
      x.put(c);
    }
    for (int i = 0; i < want.length(); i++) {
      x.clear();
      x.read(sheet, lane, i, 1);
      due(promise, "item " + i + " of sheet " + sheet, x.find(), want.charAt(i) - 'a');
    }
  }

  private static void copy() {
    MirrorNodes x = withSheet("abcde", 1, 5);
    due(29, "up in the same", x.copy(0, 0, 0, 1, 4), 4);
    dueItems(29, x, 0, 1, "aabcd");
    due(29, "down in the same", x.copy(0, 2, 0, 0, 3), 3);
    dueItems(29, x, 0, 1, "bcdcd");
    x.sheet(1, 1, 3);
    due(29, "to another", x.copy(0, 2, 1, 1, 2), 2);
    x.item(1, 1, 0, 'f');
    dueItems(29, x, 1, 1, "fdc");
    dueItems(29, x, 0, 1, "bcdcd");
    due(29, "none at the ends", x.copy(0, 5, 1, 3, 0), 0);
    int[][] beyond = {{0, 6, 1, 0, 0}, {0, 0, 1, 4, 0}, {0, 0, 1, 0, -1}, {0, -1, 1, 0, 1}, {0, 0, 1, -1, 1},
      {0, 3, 1, 0, 3}, {0, 0, 1, 1, 3}, {0, HIGH, 1, HIGH, HIGH}, {0, LOW, 1, 0, LOW}, {0, 1, 1, 1, HIGH}};
    for (int[] b : beyond) {
      due(29, "beyond", x.copy(b[0], b[1], b[2], b[3], b[4]), INDEX);
    }
    dueItems(29, x, 1, 1, "fdc");
    x.sheet(2, 2, 5);
    due(29, "unlike lanes", x.copy(0, 0, 2, 0, 1), CAST);
    due(29, "unlike lanes and beyond", x.copy(0, 0, 2, 0, -1), CAST);
    due(29, "from nothing", x.copy(3, 0, 0, 0, 1), NULL);
    due(29, "to nothing, and beyond", x.copy(2, 9, 3, 0, 1), NULL);
    due(29, "nothing to itself", x.copy(3, 0, 3, 0, 0), NULL);
    due(29, "from 4", x.copy(4, 0, 0, 0, 1), BAD);
    due(29, "to -1, from nothing", x.copy(3, 0, -1, 0, 1), BAD);
  }

  private static void spell() {
    MirrorNodes x = of("dabbac");
    x.sheet(0, 2, 6);
    due(30, "abba is node 4", x.node(4, 0), 4);
    x.item(0, 2, 0, 'f');
    x.item(0, 2, 5, 'e');
    due(30, "spell(4, 0, 2, 1)", x.spell(4, 0, 2, 1), 4);
    due(30, "spell(4, 0, 2, 2) at the end", x.spell(4, 0, 2, 2), 4);
    due(30, "spell(4, 0, 2, 3)", x.spell(4, 0, 2, 3), INDEX);
    due(30, "spell(4, 0, 2, -1)", x.spell(4, 0, 2, -1), INDEX);
    due(30, "spell(4, 0, 2, HIGH)", x.spell(4, 0, 2, HIGH), INDEX);
    due(30, "spell(4, 0, 2, LOW)", x.spell(4, 0, 2, LOW), INDEX);
    due(30, "another lane", x.spell(4, 0, 1, 9), CAST);
    due(30, "nothing", x.spell(4, 1, 1, 9), NULL);
    due(30, "no such node", x.spell(6, 1, 1, 0), BAD);
    due(30, "node -1", x.spell(-1, 0, 2, 0), BAD);
    due(30, "sheet 4", x.spell(4, 4, 2, 0), BAD);
    due(30, "lane 4", x.spell(4, 0, 4, 0), BAD);
    dueItems(30, x, 0, 2, "faabba");
  }

  private static void read() {
    MirrorNodes x = withSheet("abcab", 3, 6);
    x.put('a');
    x.put('b');
    x.put('c');
    due(31, "read(0, 3, 1, 2)", x.read(0, 3, 1, 2), 2);
    due(31, "bc stands once", x.times(), 1);
    due(31, "read behind that", x.read(0, 3, 3, 2), 4);
    due(31, "bcab does not stand", x.times(), 0);
    due(31, "none from the end", x.read(0, 3, 6, 0), 4);
    due(31, "none behind the end", x.read(0, 3, 7, 0), INDEX);
    due(31, "read(0, 3, 5, 2)", x.read(0, 3, 5, 2), INDEX);
    due(31, "read(0, 3, -1, 1)", x.read(0, 3, -1, 1), INDEX);
    due(31, "read(0, 3, HIGH, 1)", x.read(0, 3, HIGH, 1), INDEX);
    due(31, "read(0, 3, 0, -1)", x.read(0, 3, 0, -1), BAD);
    due(31, "read(0, 3, 0, 49)", x.read(0, 3, 0, 49), BAD);
    due(31, "read(4, 3, 0, 1)", x.read(4, 3, 0, 1), BAD);
    due(31, "read(0, 4, 0, 1)", x.read(0, 4, 0, 1), BAD);
    due(31, "another lane", x.read(0, 2, 9, 1), CAST);
    due(31, "nothing", x.read(1, 2, 9, 1), NULL);
    for (long v : new long[] {-1, 256, Long.MIN_VALUE, 97 + (1L << 32)}) {
      x.item(0, 3, 5, v);
      due(31, "an item that is no byte: " + v, x.read(0, 3, 4, 2), NOT);
      due(31, "the tape stays", x.count(7), 4);
    }
    x.item(0, 3, 5, 255);
    due(31, "255 is a byte", x.read(0, 3, 5, 1), 5);
    readFull();
  }

  private static void readFull() {
    MirrorNodes x = withSheet("", 0, 48);
    due(31, "48 at once", x.read(0, 0, 0, 48), 48);
    due(31, "none on 48", x.read(0, 0, 0, 0), 48);
    due(31, "one on 48", x.read(0, 0, 0, 1), FULL);
    x.item(0, 0, 0, 256);
    due(31, "no byte on 48", x.read(0, 0, 0, 1), NOT);
    x.clear();
    x.feed('a');
    due(31, "47 behind 1", x.read(0, 0, 1, 47), 48);
    x.clear();
    x.feed('a');
    x.feed('a');
    due(31, "47 behind 2", x.read(0, 0, 1, 47), FULL);
    due(31, "the tape stays", x.count(7), 2);
  }

  private static void count() {
    MirrorNodes x = of("abcaabc");
    x.feed('a');
    x.feed('x');
    int[] counts = {7, 4, 8, 1, 2, 0, 7, 2};
    for (int what = 0; what < 8; what++) {
      due(32, "count(" + what + ")", x.count(what), counts[what]);
    }
    for (int what : new int[] {-1, 8, LOW, HIGH}) {
      due(32, "count(" + what + ")", x.count(what), BAD);
    }
    MirrorNodes rich = of("abba");
    due(32, "as many nodes as letters", rich.count(5), 1);
    due(32, "all places: four letters, bb, abba", rich.count(2), 6);
    due(32, "even nodes", rich.count(3), 2);
    rich.undo();
    due(32, "acts after undo", rich.count(6), 3);
  }
}
