/** The edges that the promises 8 to 10 name: the images. */
public final class EdgesImagesTest extends Edges {
  private static final int[] NO_IMAGES = {-1, 2, 3, LOW, HIGH};

  public static void main(String[] args) {
    sentence(8, "an IMAGE (0, 1)", EdgesImagesTest::keepEach);
    sentence(8, "BAD: no such IMAGE", EdgesImagesTest::keepNoImage);
    sentence(8, "no LETTERS", EdgesImagesTest::keepOfNone);
    sentence(8, "48 LETTERS", EdgesImagesTest::keepOf48);
    sentence(8, "kept anew, longer and shorter", EdgesImagesTest::keepAnew);
    sentence(8, "to keep is no ACT and leaves THE TEXT", EdgesImagesTest::keepIsNoAct);

    sentence(9, "an IMAGE (0, 1)", EdgesImagesTest::backEach);
    sentence(9, "BAD: no such IMAGE", EdgesImagesTest::backNoImage);
    sentence(9, "NOT: none was kept", EdgesImagesTest::backNotKept);
    sentence(9, "to no LETTERS", EdgesImagesTest::backToNone);
    sentence(9, "to 48 LETTERS", EdgesImagesTest::backTo48);
    sentence(9, "as the IMAGE was, whatever came since", EdgesImagesTest::backAsItWas);
    sentence(9, "nothing can be undone then", EdgesImagesTest::backForgets);
    sentence(9, "nothing can be undone then, if THE TEXT is that already", EdgesImagesTest::backToTheSame);
    sentence(9, "24 later ACTS can be undone, as ever", EdgesImagesTest::backThenActs);
    sentence(9, "the NODES are those of the IMAGE", EdgesImagesTest::backNodes);

    sentence(10, "BAD: no such IMAGE", EdgesImagesTest::commonNoImage);
    sentence(10, "BAD: what", EdgesImagesTest::commonWhat);
    sentence(10, "NOT: none was kept", EdgesImagesTest::commonNotKept);
    sentence(10, "BAD ahead of NOT", EdgesImagesTest::commonBadAheadOfNot);
    sentence(10, "0: there is none: an IMAGE of no LETTERS", EdgesImagesTest::commonWithNone);
    sentence(10, "0: there is none: no LETTERS in THE TEXT", EdgesImagesTest::commonOfNone);
    sentence(10, "0: there is none: no LETTER alike", EdgesImagesTest::commonUnlike);
    sentence(10, "48 unlike ones, 48 LONG", EdgesImagesTest::commonOf48);
    sentence(10, "PALINDROMES, no other ROWS; unlike ones, once each", EdgesImagesTest::commonUnlikeOnes);
    sentence(10, "the longest in both is the longest of neither", EdgesImagesTest::commonLongest);
    sentence(10, "asked anew, of an IMAGE of fewer LETTERS", EdgesImagesTest::commonAnew);
    end(8, 10);
  }

  private static void keepEach() {
    MirrorNodes x = of("ab");
    due("keep(0)", x.keep(0), 2);
    x.put('c');
    due("keep(1)", x.keep(1), 3);
    due("back(0)", x.back(0), 2);
    dueText("back(0)", x, "ab");
    due("back(1)", x.back(1), 3);
    dueText("back(1)", x, "abc");
  }

  private static void keepNoImage() {
    for (int k : NO_IMAGES) {
      stays("keep(" + k + ")", NEW, x -> x.keep(k), BAD);
      stays("keep(" + k + ")", SOME, x -> x.keep(k), BAD);
      stays("keep(" + k + ")", ALL, x -> x.keep(k), BAD);
    }
  }

  private static void keepOfNone() {
    MirrorNodes x = new MirrorNodes();
    for (int k = 0; k < 2; k++) {
      due("keep(" + k + ")", x.keep(k), 0);
      due("back(" + k + ") is not NOT", x.back(k), 0);
    }
  }

  private static void keepOf48() {
    MirrorNodes x = of(PLAIN);
    due("keep(0)", x.keep(0), 48);
    due("keep(1)", x.keep(1), 48);
    x.pop();
    due("back(0)", x.back(0), 48);
    dueText("back(0)", x, PLAIN);
    x.change(0, 'f');
    due("back(1)", x.back(1), 48);
    dueText("back(1)", x, PLAIN);
  }

  private static void keepAnew() {
    MirrorNodes x = of("abc");
    x.keep(0);
    x.put('d');
    due("keep(0), longer", x.keep(0), 4);
    x.pop();
    x.back(0);
    dueText("back(0)", x, "abcd");
    x.pop();
    x.pop();
    due("keep(0), shorter", x.keep(0), 2);
    x.put('f');
    x.put('f');
    due("back(0)", x.back(0), 2);
    dueText("back(0)", x, "ab");
    x.pop();
    x.pop();
    due("keep(0) of none", x.keep(0), 0);
    x.put('e');
    due("back(0)", x.back(0), 0);
    dueText("back(0)", x, "");
  }

  private static void keepIsNoAct() {
    MirrorNodes x = of("abc");
    x.keep(0);
    x.keep(1);
    due("count(6)", x.count(6), 3);
    dueText("keep", x, "abc");
    due("undo()", x.undo(), 2);
    dueText("undo() behind keep", x, "ab");
    due("back(0): undo() leaves the image", x.back(0), 3);
    dueText("back(0)", x, "abc");
  }

  private static void backEach() {
    MirrorNodes x = of("a");
    x.keep(0);
    x.put('b');
    x.keep(1);
    x.put('c');
    due("back(0)", x.back(0), 1);
    due("back(1)", x.back(1), 2);
    due("back(0), twice", x.back(0), 1);
    dueText("back(0)", x, "a");
  }

  private static void backNoImage() {
    for (int k : NO_IMAGES) {
      stays("back(" + k + ")", NEW, x -> x.back(k), BAD);
      stays("back(" + k + ")", SOME, x -> x.back(k), BAD);
      stays("back(" + k + ")", ALL, x -> x.back(k), BAD);
    }
  }

  private static void backNotKept() {
    stays("back(0)", NEW, x -> x.back(0), NOT);
    stays("back(1)", NEW, x -> x.back(1), NOT);
    stays("back(1), image 0 being kept", SOME, x -> x.back(1), NOT);
    Held other = new Held("", x -> putAll(x, "abc"), x -> x.keep(1), x -> x.put('c'));
    stays("back(0), image 1 being kept", other, x -> x.back(0), NOT);
  }

  private static void backToNone() {
    MirrorNodes x = new MirrorNodes();
    x.keep(1);
    putAll(x, PLAIN);
    due("back(1) from 48", x.back(1), 0);
    dueText("back(1)", x, "");
    due("nodes", x.count(1), 0);
    due("pop()", x.pop(), NOT);
    due("undo()", x.undo(), NONE);
    due("put(97)", x.put('a'), 1);
    due("nodes", x.count(1), 1);
  }

  private static void backTo48() {
    MirrorNodes x = of(RICH);
    x.keep(0);
    write(x, "");
    due("back(0) from none", x.back(0), 48);
    dueText("back(0)", x, RICH);
    due("nodes", x.count(1), 48);
    due("put(97)", x.put('a'), FULL);
  }

  private static void backAsItWas() {
    MirrorNodes x = of("abcabc");
    x.keep(0);
    x.change(0, 'f');
    x.change(5, 'f');
    x.pop();
    putAll(x, "ddd");
    due("back(0)", x.back(0), 6);
    dueText("back(0)", x, "abcabc");
    x.change(3, 'f');
    due("back(0), the text changed anew", x.back(0), 6);
    dueText("back(0)", x, "abcabc");
  }

  private static void backForgets() {
    MirrorNodes x = of(PLAIN.substring(0, 30));
    x.keep(0);
    x.put('a');
    due("acts ahead of back", x.count(6), 24);
    x.back(0);
    due("count(6)", x.count(6), 0);
    due("undo()", x.undo(), NONE);
    dueText("undo() behind back", x, PLAIN.substring(0, 30));
  }

  private static void backToTheSame() {
    MirrorNodes x = of("abc");
    x.keep(0);
    due("back(0)", x.back(0), 3);
    due("count(6)", x.count(6), 0);
    due("undo()", x.undo(), NONE);
    dueText("undo()", x, "abc");
  }

  private static void backThenActs() {
    MirrorNodes x = of("abc");
    x.keep(0);
    x.back(0);
    putAll(x, PLAIN.substring(0, 24));
    due("count(6)", x.count(6), 24);
    for (int left = 23; left >= 0; left--) {
      due("undo()", x.undo(), left);
    }
    due("undo()", x.undo(), NONE);
    dueText("undo() down to back", x, "abc");
  }

  private static void backNodes() {
    MirrorNodes x = of("abba");
    x.keep(0);
    write(x, "fedcba");
    x.back(0);
    due("nodes", x.count(1), 4);
    int[] longs = {1, 1, 2, 4};
    for (int v = 0; v < 4; v++) {
      due("LONG of " + v, x.node(v, 0), longs[v]);
    }
    due("put(98) then", x.put('b'), 3);
    due("nodes then: bab", x.count(1), 5);
  }

  private static void commonNoImage() {
    for (int k : NO_IMAGES) {
      stays("common(" + k + ", 0)", NEW, x -> x.common(k, 0), BAD);
      stays("common(" + k + ", 0)", SOME, x -> x.common(k, 0), BAD);
      stays("common(" + k + ", 1)", ALL, x -> x.common(k, 1), BAD);
    }
  }

  private static void commonWhat() {
    stays("common(0, 0): a, b, bb", SOME, x -> x.common(0, 0), 3);
    stays("common(0, 1)", SOME, x -> x.common(0, 1), 2);
    for (int what : new int[] {-1, 2, 3, LOW, HIGH}) {
      stays("common(0, " + what + ")", SOME, x -> x.common(0, what), BAD);
    }
  }

  private static void commonNotKept() {
    stays("common(0, 0)", NEW, x -> x.common(0, 0), NOT);
    stays("common(0, 1)", NEW, x -> x.common(0, 1), NOT);
    stays("common(1, 0)", SOME, x -> x.common(1, 0), NOT);
    stays("common(1, 1)", SOME, x -> x.common(1, 1), NOT);
  }

  private static void commonBadAheadOfNot() {
    stays("common(1, 2)", SOME, x -> x.common(1, 2), BAD);
    stays("common(1, -1)", SOME, x -> x.common(1, -1), BAD);
    stays("common(0, 2)", NEW, x -> x.common(0, 2), BAD);
  }

  private static void commonWithNone() {
    MirrorNodes x = new MirrorNodes();
    x.keep(0);
    due("common(0, 0) of none and none", x.common(0, 0), 0);
    due("common(0, 1) of none and none", x.common(0, 1), 0);
    putAll(x, RICH);
    due("common(0, 0)", x.common(0, 0), 0);
    due("common(0, 1)", x.common(0, 1), 0);
  }

  private static void commonOfNone() {
    Held emptied = new Held("", x -> putAll(x, "aba"), x -> x.keep(1), x -> x.pop(), x -> x.pop(), x -> x.pop());
    stays("common(1, 0)", emptied, x -> x.common(1, 0), 0);
    stays("common(1, 1)", emptied, x -> x.common(1, 1), 0);
  }

  private static void commonUnlike() {
    MirrorNodes x = of("abcabc");
    x.keep(0);
    write(x, "defdef");
    due("common(0, 0)", x.common(0, 0), 0);
    due("common(0, 1)", x.common(0, 1), 0);
    x.change(5, 'c');
    due("common(0, 0), one letter alike", x.common(0, 0), 1);
    due("common(0, 1), one letter alike", x.common(0, 1), 1);
  }

  private static void commonOf48() {
    stays("common(0, 0)", ALL, x -> x.common(0, 0), 48);
    stays("common(1, 1)", ALL, x -> x.common(1, 1), 48);
    MirrorNodes x = of(SAME);
    x.keep(1);
    x.change(47, 'b');
    due("common(1, 0) of 48 and 47 a", x.common(1, 0), 47);
    due("common(1, 1)", x.common(1, 1), 47);
  }

  private static void commonUnlikeOnes() {
    MirrorNodes x = of("abcabcabc");
    x.keep(0);
    due("common(0, 0) of abcabcabc with itself", x.common(0, 0), 3);
    due("common(0, 1)", x.common(0, 1), 1);
  }

  private static void commonLongest() {
    MirrorNodes x = of("abacaba");
    x.keep(0);
    write(x, "dabad");
    due("a, b, aba", x.common(0, 0), 3);
    due("aba", x.common(0, 1), 3);
    x.keep(1);
    x.back(0);
    due("a, b, aba, the other way round", x.common(1, 0), 3);
    due("aba", x.common(1, 1), 3);
  }

  private static void commonAnew() {
    MirrorNodes x = of("a");
    x.keep(0);
    putAll(x, "bba");
    x.keep(1);
    due("with abba itself", x.common(1, 0), 4);
    due("with a", x.common(0, 0), 1);
    due("with a, the longest", x.common(0, 1), 1);
    due("of all that stands in a span", x.in(0, 4, 2), 4);
    due("with a, behind that", x.common(0, 0), 1);
  }
}
