/** The edges that the promises 1 to 7 name: a new object, and the text. */
public final class EdgesTextTest extends Edges {
  private static final int[] NO_LETTERS = {
    96, 103, 0, -1, 'A', 'F', 'z', -97, 97 + 128, 97 + 256, 97 - 256, 97 + 65536, 97 + LOW, 102 + LOW, LOW, HIGH};

  public static void main(String[] args) {
    sentence(1, "no LETTERS", EdgesTextTest::newHasNoLetters);
    sentence(1, "no NODES without LETTERS", EdgesTextTest::newHasNoNodes);
    sentence(1, "nothing can be undone at first", EdgesTextTest::newHasNoActs);
    sentence(1, "no IMAGE was kept", EdgesTextTest::newHasNoImages);
    sentence(1, "THE TAPE has no bytes", EdgesTextTest::newHasNoTape);
    sentence(1, "SHEETS 0 .. 3: nothing (at first)", EdgesTextTest::newHasNoSheets);
    sentence(1, "each object has a state of its own", EdgesTextTest::objectsAreApart);
    sentence(1, "at most 512 calls: the last of them, too", EdgesTextTest::lastOf512);

    sentence(2, "LETTERS are a to f: the least and the greatest", EdgesTextTest::putLeastAndGreatest);
    sentence(2, "BAD: no LETTER", EdgesTextTest::putNoLetter);
    sentence(2, "how LONG: 1 at least, 48 at most", EdgesTextTest::putLongest);
    sentence(2, "THE TEXT has 0 to 48 LETTERS", EdgesTextTest::put48);
    sentence(2, "FULL: 48", EdgesTextTest::putFull);
    sentence(2, "BAD ahead of FULL", EdgesTextTest::putBadAheadOfFull);
    sentence(2, "FULL no more, when one was taken OFF", EdgesTextTest::putAfterFull);
    sentence(2, "a LETTER more brings one NODE at most", EdgesTextTest::putBringsOneAtMost);

    sentence(3, "NOT: there is none", EdgesTextTest::popOfNone);
    sentence(3, "NOT, when the last one was taken OFF", EdgesTextTest::popUntilNone);
    sentence(3, "that, as a byte: the least and the greatest LETTER", EdgesTextTest::popBytes);
    sentence(3, "of 48", EdgesTextTest::popOf48);
    sentence(3, "a NODE goes with the only place at which it STOOD", EdgesTextTest::popOfNodes);

    sentence(4, "the least and the greatest place", EdgesTextTest::changeAtEnds);
    sentence(4, "BAD: no such place", EdgesTextTest::changeNoPlace);
    sentence(4, "BAD: no LETTERS, so no place", EdgesTextTest::changeOfNone);
    sentence(4, "BAD: no LETTER", EdgesTextTest::changeNoLetter);
    sentence(4, "the least and the greatest LETTER", EdgesTextTest::changeLeastAndGreatest);
    sentence(4, "NOT: it is that", EdgesTextTest::changeToTheSame);
    sentence(4, "of 48", EdgesTextTest::changeOf48);

    sentence(5, "NONE: none can", EdgesTextTest::undoOfNone);
    sentence(5, "NONE, when all was undone", EdgesTextTest::undoUntilNone);
    sentence(5, "the latest 24 can be undone: 24 ACTS", EdgesTextTest::undo24);
    sentence(5, "the latest 24 can be undone: 25 ACTS", EdgesTextTest::undo25);
    sentence(5, "the latest 24 can be undone, of each kind", EdgesTextTest::undoForgetsEachKind);
    sentence(5, "an ACT behind one undone is the 24th again", EdgesTextTest::undoMakesRoom);
    sentence(5, "the latest first", EdgesTextTest::undoLatestFirst);
    sentence(5, "of the first LETTER and of the last one left", EdgesTextTest::undoToAndFromNone);
    sentence(5, "at 48", EdgesTextTest::undoAt48);
    sentence(5, "a CHANGE at the least and the greatest place", EdgesTextTest::undoChangeAtEnds);
    sentence(5, "to undo is no ACT", EdgesTextTest::undoIsNoAct);
    sentence(5, "what is refused is no ACT", EdgesTextTest::refusedIsNoAct);

    sentence(6, "the least and the greatest place", EdgesTextTest::letterAtEnds);
    sentence(6, "BAD: no such place", EdgesTextTest::letterNoPlace);
    sentence(6, "BAD: no LETTERS", EdgesTextTest::letterOfNone);
    sentence(6, "the 48th", EdgesTextTest::letterOf48);
    sentence(6, "BAD: taken OFF", EdgesTextTest::letterTakenOff);

    sentence(7, "BAD: no such NODE", EdgesTextTest::nodeNoNode);
    sentence(7, "BAD: fewer NODES than LETTERS", EdgesTextTest::nodeFewerThanLetters);
    sentence(7, "BAD: no LETTERS, so no NODES", EdgesTextTest::nodeOfNone);
    sentence(7, "BAD: what", EdgesTextTest::nodeWhat);
    sentence(7, "48 NODES", EdgesTextTest::nodeOf48);
    sentence(7, "numbered by where the first of their places ends", EdgesTextTest::nodeNumbers);
    sentence(7, "FIRST, LAST the least, the greatest place", EdgesTextTest::nodePlaces);
    sentence(7, "OFTEN at how many: 1 at least, places that overlap", EdgesTextTest::nodeOften);
    sentence(7, "LINK none, if it has one LETTER", EdgesTextTest::nodeLink);
    sentence(7, "LESS without a LINK: LONG", EdgesTextTest::nodeLess);
    sentence(7, "SERIES; none", EdgesTextTest::nodeSeries);
    sentence(7, "CORE none, if it has one or two", EdgesTextTest::nodeCore);
    end(1, 7);
  }

  private static void newHasNoLetters() {
    MirrorNodes x = new MirrorNodes();
    due("count(0)", x.count(0), 0);
    due("letter(0)", x.letter(0), BAD);
    due("pop()", x.pop(), NOT);
  }

  private static void newHasNoNodes() {
    MirrorNodes x = new MirrorNodes();
    due("count(1)", x.count(1), 0);
    due("count(2)", x.count(2), 0);
    due("count(3)", x.count(3), 0);
    due("count(4)", x.count(4), 0);
    due("node(0, 0)", x.node(0, 0), BAD);
  }

  private static void newHasNoActs() {
    MirrorNodes x = new MirrorNodes();
    due("count(6)", x.count(6), 0);
    due("undo()", x.undo(), NONE);
  }

  private static void newHasNoImages() {
    MirrorNodes x = new MirrorNodes();
    for (int k = 0; k < 2; k++) {
      due("back(" + k + ")", x.back(k), NOT);
      due("common(" + k + ", 0)", x.common(k, 0), NOT);
    }
  }

  private static void newHasNoTape() {
    MirrorNodes x = new MirrorNodes();
    due("count(7)", x.count(7), 0);
    due("find()", x.find(), NONE);
    due("times()", x.times(), 0);
    due("clear()", x.clear(), 0);
  }

  private static void newHasNoSheets() {
    MirrorNodes x = new MirrorNodes();
    x.put('a');
    for (int s = 0; s < 4; s++) {
      due("item of " + s, x.item(s, 0, 0, 1), NULL);
      due("copy from and to " + s, x.copy(s, 0, s, 0, 0), NULL);
      due("spell to " + s, x.spell(0, s, 0, 0), NULL);
      due("read of " + s, x.read(s, 0, 0, 0), NULL);
      due("drop(" + s + ")", x.drop(s), NULL);
    }
  }

  private static void objectsAreApart() {
    MirrorNodes one = of("ab");
    MirrorNodes other = new MirrorNodes();
    one.keep(0);
    one.feed('a');
    one.sheet(0, 0, 1);
    one.grow(1, 0);
    due("count(0)", other.count(0), 0);
    due("count(6)", other.count(6), 0);
    due("count(7)", other.count(7), 0);
    due("back(0)", other.back(0), NOT);
    due("drop(0)", other.drop(0), NULL);
    other.put('f');
    dueText("put to the other", one, "ab");
  }

  private static void lastOf512() {
    MirrorNodes x = new MirrorNodes();
    for (int i = 0; i < 48; i++) {
      x.put('a');
    }
    for (int i = 48; i < 510; i += 2) {
      due("pop() as call " + (i + 1), x.pop(), 'a');
      due("put(97) as call " + (i + 2), x.put('a'), 48);
    }
    due("change(0, 98) as call 511", x.change(0, 'b'), 'a');
    due("undo() as call 512", x.undo(), 23);
  }

  private static void putLeastAndGreatest() {
    for (int letter = 97; letter <= 102; letter++) {
      MirrorNodes x = new MirrorNodes();
      due("put(" + letter + ")", x.put(letter), 1);
      due("letter(0)", x.letter(0), letter);
    }
  }

  private static void putNoLetter() {
    for (int letter : NO_LETTERS) {
      due("put(" + letter + ")", new MirrorNodes().put(letter), BAD);
      stays("put(" + letter + ")", SOME, x -> x.put(letter), BAD);
    }
  }

  private static void putLongest() {
    MirrorNodes x = new MirrorNodes();
    for (int i = 1; i <= 48; i++) {
      due("put(97) as letter " + i, x.put('a'), i);
    }
    MirrorNodes rich = of(RICH.substring(0, 47));
    due("the put that makes 48 letters one palindrome", rich.put('a'), 48);
    MirrorNodes plain = of(PLAIN.substring(0, 47));
    due("put(102) as the 48th of no other palindrome", plain.put('f'), 1);
  }

  private static void put48() {
    MirrorNodes x = of(PLAIN.substring(0, 47));
    due("count(0)", x.count(0), 47);
    due("put(97) on 47", x.put('a'), 1);
    due("count(0)", x.count(0), 48);
    dueText("put(97) on 47", x, PLAIN.substring(0, 47) + "a");
  }

  private static void putFull() {
    for (int letter = 97; letter <= 102; letter++) {
      int put = letter;
      stays("put(" + letter + ") on 48", ALL, x -> x.put(put), FULL);
    }
  }

  private static void putBadAheadOfFull() {
    stays("put(96) on 48", ALL, x -> x.put(96), BAD);
    stays("put(103) on 48", ALL, x -> x.put(103), BAD);
    stays("put(LOW) on 48", ALL, x -> x.put(LOW), BAD);
  }

  private static void putAfterFull() {
    MirrorNodes x = of(SAME);
    due("put(97)", x.put('a'), FULL);
    x.pop();
    due("put(98) behind pop()", x.put('b'), 1);
    due("put(98)", x.put('b'), FULL);
    x.undo();
    due("put(97) behind undo()", x.put('a'), 48);
    due("put(97)", x.put('a'), FULL);
  }

  private static void putBringsOneAtMost() {
    MirrorNodes same = new MirrorNodes();
    for (int i = 1; i <= 48; i++) {
      same.put('a');
      due("nodes of " + i + " like letters", same.count(1), i);
    }
    MirrorNodes plain = new MirrorNodes();
    for (int i = 1; i <= 48; i++) {
      plain.put(PLAIN.charAt(i - 1));
      due("nodes of " + i + " letters of abcdef again and again", plain.count(1), Math.min(i, 6));
    }
  }

  private static void popOfNone() {
    stays("pop()", NEW, x -> x.pop(), NOT);
    Held nothing = new Held("a", x -> x.keep(0), x -> x.feed('a'), x -> x.sheet(0, 0, 48));
    stays("pop() beside an image, a tape, a sheet", nothing, x -> x.pop(), NOT);
  }

  private static void popUntilNone() {
    Held emptied = new Held("", x -> putAll(x, "ab"), x -> x.pop(), x -> x.pop());
    stays("pop() of two letters, the third", emptied, x -> x.pop(), NOT);
    due("acts then", emptied.make().count(6), 4);
    MirrorNodes one = of("c");
    due("pop() of one", one.pop(), 'c');
    due("pop() again", one.pop(), NOT);
    due("count(0)", one.count(0), 0);
    due("count(1)", one.count(1), 0);
  }

  private static void popBytes() {
    MirrorNodes x = of("abcdef");
    for (int letter = 102; letter >= 97; letter--) {
      due("pop()", x.pop(), letter);
    }
  }

  private static void popOf48() {
    MirrorNodes x = of(PLAIN);
    due("pop() of 48", x.pop(), 'f');
    due("count(0)", x.count(0), 47);
    for (int left = 46; left >= 0; left--) {
      due("pop() that leaves " + left, x.pop(), PLAIN.charAt(left));
    }
    due("pop()", x.pop(), NOT);
    due("count(1)", x.count(1), 0);
  }

  private static void popOfNodes() {
    MirrorNodes x = of("abaca");
    due("nodes of abaca: a, b, aba, c, aca", x.count(1), 5);
    x.pop();
    due("nodes of abac", x.count(1), 4);
    x.pop();
    due("nodes of aba", x.count(1), 3);
    x.put('a');
    x.put('b');
    due("nodes of abaab: a, b, aba, aa, baab", x.count(1), 5);
    x.put('b');
    x.pop();
    due("the same", x.count(1), 5);
    due("baab's first place", x.node(4, 1), 1);
    MirrorNodes often = of("abcab");
    often.pop();
    due("b STANDS elsewhere, too", often.count(1), 3);
  }

  private static void changeAtEnds() {
    MirrorNodes x = of("abc");
    due("change(0, 102)", x.change(0, 'f'), 'a');
    dueText("change(0, 102)", x, "fbc");
    due("change(2, 102)", x.change(2, 'f'), 'c');
    dueText("change(2, 102)", x, "fbf");
    due("nodes of fbf", x.count(1), 3);
    MirrorNodes one = of("a");
    due("change(0, 98) of one letter", one.change(0, 'b'), 'a');
    dueText("change(0, 98)", one, "b");
    due("nodes of b", one.count(1), 1);
  }

  private static void changeNoPlace() {
    for (int place : new int[] {-1, SOME_TEXT.length(), SOME_TEXT.length() + 1, 48, LOW, HIGH}) {
      stays("change(" + place + ", 102)", SOME, x -> x.change(place, 'f'), BAD);
    }
    for (int place : new int[] {-1, 48, 49, LOW, HIGH}) {
      stays("change(" + place + ", 102) of 48", ALL, x -> x.change(place, 'f'), BAD);
    }
  }

  private static void changeOfNone() {
    stays("change(0, 97)", NEW, x -> x.change(0, 'a'), BAD);
    stays("change(-1, 97)", NEW, x -> x.change(-1, 'a'), BAD);
    MirrorNodes x = of("a");
    x.pop();
    due("change(0, 98) of a letter taken off", x.change(0, 'b'), BAD);
  }

  private static void changeNoLetter() {
    for (int letter : NO_LETTERS) {
      stays("change(0, " + letter + ")", SOME, x -> x.change(0, letter), BAD);
    }
    stays("change(47, 96)", ALL, x -> x.change(47, 96), BAD);
    stays("change(47, 103)", ALL, x -> x.change(47, 103), BAD);
  }

  private static void changeLeastAndGreatest() {
    for (int letter = 97; letter <= 102; letter++) {
      MirrorNodes x = of(letter == 'c' ? "d" : "c");
      due("change(0, " + letter + ")", x.change(0, letter), letter == 'c' ? 'd' : 'c');
      due("letter(0)", x.letter(0), letter);
    }
  }

  private static void changeToTheSame() {
    for (int place = 0; place < SOME_TEXT.length(); place++) {
      int at = place;
      stays("change of place " + place + " to what it is", SOME, x -> x.change(at, SOME_TEXT.charAt(at)), NOT);
    }
    stays("change(0, 97) of 48", ALL, x -> x.change(0, RICH.charAt(0)), NOT);
    stays("change(47, 97) of 48", ALL, x -> x.change(47, RICH.charAt(47)), NOT);
  }

  private static void changeOf48() {
    MirrorNodes x = of(SAME);
    due("change(0, 98)", x.change(0, 'b'), 'a');
    due("change(47, 98)", x.change(47, 'b'), 'a');
    dueText("change of 48", x, "b" + SAME.substring(2) + "b");
    due("nodes: a to 46 a, b, all 48", x.count(1), 48);
    due("the longest", x.count(4), 48);
    due("the acts", x.count(6), 24);
  }

  private static void undoOfNone() {
    stays("undo()", NEW, x -> x.undo(), NONE);
    Held back = new Held("b", x -> putAll(x, "abc"), x -> x.keep(1), x -> x.back(1), x -> x.feed('b'));
    stays("undo() behind back", back, x -> x.undo(), NONE);
  }

  private static void undoUntilNone() {
    Held undone = new Held("", x -> putAll(x, "ab"), x -> x.undo(), x -> x.undo());
    stays("undo() of two acts, the third", undone, x -> x.undo(), NONE);
    MirrorNodes x = of("a");
    due("undo() of one act", x.undo(), 0);
    due("undo() again", x.undo(), NONE);
    due("count(0)", x.count(0), 0);
  }

  private static void undo24() {
    MirrorNodes x = of(PLAIN.substring(0, 24));
    due("count(6)", x.count(6), 24);
    for (int left = 23; left >= 0; left--) {
      due("undo()", x.undo(), left);
      due("count(6)", x.count(6), left);
      due("count(0)", x.count(0), left);
    }
    due("undo()", x.undo(), NONE);
  }

  private static void undo25() {
    MirrorNodes x = of("f" + PLAIN.substring(0, 24));
    due("count(6)", x.count(6), 24);
    for (int left = 23; left >= 0; left--) {
      due("undo()", x.undo(), left);
    }
    due("undo() of the oldest of 25", x.undo(), NONE);
    dueText("the first act stays", x, "f");
    MirrorNodes most = of(PLAIN);
    due("count(6) of 48 acts", most.count(6), 24);
    for (int left = 23; left >= 0; left--) {
      due("undo() of 48 acts", most.undo(), left);
    }
    due("undo()", most.undo(), NONE);
    dueText("24 acts stay", most, PLAIN.substring(0, 24));
  }

  private static void undoForgetsEachKind() {
    for (int kind = 0; kind < 3; kind++) {
      MirrorNodes x = of("abc");
      x.keep(0);
      x.back(0);
      if (kind == 0) {
        x.put('d');
      } else if (kind == 1) {
        x.pop();
      } else {
        x.change(1, 'e');
      }
      String then = textOf(x);
      putAll(x, PLAIN.substring(0, 22));
      x.change(0, 'f');
      x.pop();
      for (int left = 23; left >= 0; left--) {
        due("undo()", x.undo(), left);
      }
      due("undo() of the 25th", x.undo(), NONE);
      dueText("the 25th, of kind " + kind + ", stays", x, then);
    }
  }

  private static void undoMakesRoom() {
    MirrorNodes x = of(PLAIN.substring(0, 24));
    due("undo()", x.undo(), 23);
    x.put('a');
    due("count(6)", x.count(6), 24);
    x.put('b');
    due("count(6)", x.count(6), 24);
    for (int left = 23; left >= 0; left--) {
      due("undo()", x.undo(), left);
    }
    due("undo()", x.undo(), NONE);
    dueText("the first of 25 stays", x, "a");
  }

  private static void undoLatestFirst() {
    MirrorNodes x = of("ab");
    x.change(0, 'c');
    x.change(0, 'd');
    x.pop();
    x.put('e');
    x.change(1, 'f');
    String[] texts = {"de", "d", "db", "cb", "ab", "a", ""};
    for (int i = 0; i < texts.length; i++) {
      due("undo() " + i, x.undo(), texts.length - 1 - i);
      dueText("undo() " + i, x, texts[i]);
    }
    due("undo()", x.undo(), NONE);
  }

  private static void undoToAndFromNone() {
    MirrorNodes x = of("c");
    x.pop();
    due("undo() of the pop that left none", x.undo(), 1);
    dueText("undo() of pop", x, "c");
    due("nodes", x.count(1), 1);
    due("undo() of the first put", x.undo(), 0);
    dueText("undo() of put", x, "");
    due("nodes", x.count(1), 0);
    due("put(99) again", x.put('c'), 1);
  }

  private static void undoAt48() {
    MirrorNodes x = of(RICH);
    x.pop();
    due("undo() of a pop from 48", x.undo(), 23);
    dueText("undo() of a pop", x, RICH);
    due("nodes", x.count(1), 48);
    due("put(97)", x.put('a'), FULL);
    due("undo() of the put of the 48th", x.undo(), 22);
    dueText("undo() of a put", x, RICH.substring(0, 47));
    due("nodes", x.count(1), 47);
    due("put(97)", x.put('a'), 48);
  }

  private static void undoChangeAtEnds() {
    MirrorNodes x = of(RICH);
    x.change(0, 'f');
    x.change(47, 'f');
    due("undo()", x.undo(), 23);
    dueText("undo() of the last place", x, "f" + RICH.substring(1));
    due("undo()", x.undo(), 22);
    dueText("undo() of the first place", x, RICH);
    due("nodes", x.count(1), 48);
    due("the longest", x.count(4), 48);
  }

  private static void undoIsNoAct() {
    MirrorNodes x = of("abc");
    due("undo()", x.undo(), 2);
    due("count(6)", x.count(6), 2);
    due("undo() again undoes the one ahead", x.undo(), 1);
    dueText("two undone", x, "a");
  }

  private static void refusedIsNoAct() {
    MirrorNodes x = of(SAME);
    x.keep(0);
    x.back(0);
    x.put('a');
    x.put(96);
    x.change(0, 'a');
    x.change(48, 'a');
    x.change(0, 103);
    x.back(2);
    due("count(6)", x.count(6), 0);
    due("undo()", x.undo(), NONE);
    MirrorNodes none = new MirrorNodes();
    none.pop();
    due("count(6) behind pop() of none", none.count(6), 0);
    due("undo()", none.undo(), NONE);
  }

  private static void letterAtEnds() {
    stays("letter(0)", SOME, x -> x.letter(0), 'a');
    stays("letter of the last place", SOME, x -> x.letter(SOME_TEXT.length() - 1), 'b');
    MirrorNodes x = of("abcdef");
    for (int place = 0; place < 6; place++) {
      due("letter(" + place + ")", x.letter(place), 97 + place);
    }
  }

  private static void letterNoPlace() {
    for (int place : new int[] {-1, SOME_TEXT.length(), SOME_TEXT.length() + 1, 47, 48, LOW, HIGH}) {
      stays("letter(" + place + ")", SOME, x -> x.letter(place), BAD);
    }
  }

  private static void letterOfNone() {
    for (int place : new int[] {-1, 0, 1, 48}) {
      stays("letter(" + place + ")", NEW, x -> x.letter(place), BAD);
    }
  }

  private static void letterOf48() {
    stays("letter(47)", ALL, x -> x.letter(47), 'a');
    stays("letter(48)", ALL, x -> x.letter(48), BAD);
    stays("letter(-1)", ALL, x -> x.letter(-1), BAD);
    due("letter(47) of abcdef again and again", of(PLAIN).letter(47), 'f');
  }

  private static void letterTakenOff() {
    MirrorNodes x = of("abc");
    x.pop();
    due("letter(2)", x.letter(2), BAD);
    due("letter(1)", x.letter(1), 'b');
    x.undo();
    due("letter(2) behind undo()", x.letter(2), 'c');
    x.undo();
    x.undo();
    due("letter(1) behind undo() of put", x.letter(1), BAD);
  }

  private static void nodeNoNode() {
    stays("node(0, 0)", SOME, x -> x.node(0, 0), 1);
    stays("node(5, 0), the last", SOME, x -> x.node(5, 0), 2);
    for (int node : new int[] {-1, 6, 7, 48, 49, 50, LOW, HIGH}) {
      for (int what = 0; what < 8; what++) {
        int asked = what;
        due("node(" + node + ", " + what + ")", SOME.make().node(node, asked), BAD);
      }
      stays("node(" + node + ", 0)", SOME, x -> x.node(node, 0), BAD);
    }
  }

  private static void nodeFewerThanLetters() {
    MirrorNodes x = of(PLAIN);
    due("node(5, 0)", x.node(5, 0), 1);
    due("node(6, 0)", x.node(6, 0), BAD);
    due("node(47, 0)", x.node(47, 0), BAD);
  }

  private static void nodeOfNone() {
    for (int what = 0; what < 8; what++) {
      int asked = what;
      stays("node(0, " + what + ")", NEW, x -> x.node(0, asked), BAD);
    }
    MirrorNodes x = of("a");
    x.pop();
    due("node(0, 0) of what was taken off", x.node(0, 0), BAD);
  }

  private static void nodeWhat() {
    stays("node(0, 7)", SOME, x -> x.node(0, 7), NONE);
    for (int what : new int[] {-1, 8, 9, LOW, HIGH}) {
      stays("node(0, " + what + ")", SOME, x -> x.node(0, what), BAD);
      stays("node(9, " + what + ")", SOME, x -> x.node(9, what), BAD);
    }
  }

  private static void nodeOf48() {
    stays("node(47, 0)", ALL, x -> x.node(47, 0), 48);
    stays("node(48, 0)", ALL, x -> x.node(48, 0), BAD);
    stays("node(49, 0)", ALL, x -> x.node(49, 0), BAD);
    MirrorNodes x = of(SAME);
    int[] due = {48, 0, 0, 1, 46, 1, NONE, 45};
    for (int what = 0; what < 8; what++) {
      due("node(47, " + what + ") of 48 like letters", x.node(47, what), due[what]);
    }
    due("OFTEN of one letter", x.node(0, 3), 48);
    due("LAST of one letter", x.node(0, 2), 47);
  }

  private static void nodeNumbers() {
    MirrorNodes x = of("fabba");
    int[] firsts = {0, 1, 2, 2, 1};
    int[] longs = {1, 1, 1, 2, 4};
    for (int v = 0; v < 5; v++) {
      due("FIRST of " + v, x.node(v, 1), firsts[v]);
      due("LONG of " + v, x.node(v, 0), longs[v]);
    }
    x.change(0, 'b');
    due("babba, put: LONG of 2, bab", of("babba").node(2, 0), 3);
    due("babba, by a change: LONG of 2, bab", x.node(2, 0), 3);
    due("LONG of 3, bb", x.node(3, 0), 2);
    due("LONG of 4, abba", x.node(4, 0), 4);
    due("no more", x.node(5, 0), BAD);
  }

  private static void nodePlaces() {
    MirrorNodes x = of("abcba");
    due("FIRST of a", x.node(0, 1), 0);
    due("LAST of a", x.node(0, 2), 4);
    due("FIRST of abcba", x.node(4, 1), 0);
    due("LAST of what STANDS once is its FIRST", x.node(4, 2), 0);
    due("FIRST of c", x.node(2, 1), 2);
    due("LAST of c", x.node(2, 2), 2);
    x.pop();
    due("LAST of a, the other taken off", x.node(0, 2), 0);
    due("LAST of the only letter", of("f").node(0, 2), 0);
    due("LAST of aa in aaa", of("aaa").node(1, 2), 1);
  }

  private static void nodeOften() {
    MirrorNodes x = of("aaabaaa");
    due("OFTEN of a", x.node(0, 3), 6);
    due("OFTEN of aa", x.node(1, 3), 4);
    due("OFTEN of aaa", x.node(2, 3), 2);
    due("OFTEN of b", x.node(3, 3), 1);
    due("OFTEN of all seven", x.node(6, 3), 1);
    due("OFTEN of aba in ababa", of("ababa").node(2, 3), 2);
  }

  private static void nodeLink() {
    MirrorNodes x = of("abba");
    due("LINK of a", x.node(0, 4), NONE);
    due("LINK of b", x.node(1, 4), NONE);
    due("LINK of bb", x.node(2, 4), 1);
    due("LINK of abba", x.node(3, 4), 0);
    due("LINK of aa", of("aa").node(1, 4), 0);
    due("LINK of ababa: aba", of("ababa").node(4, 4), 2);
  }

  private static void nodeLess() {
    MirrorNodes x = of("abba");
    due("LESS of a", x.node(0, 5), 1);
    due("LESS of b", x.node(1, 5), 1);
    due("LESS of bb", x.node(2, 5), 1);
    due("LESS of abba", x.node(3, 5), 3);
    due("LESS of ababa", of("ababa").node(4, 5), 2);
  }

  private static void nodeSeries() {
    MirrorNodes x = of("ababa");
    due("SERIES of a", x.node(0, 6), NONE);
    due("SERIES of aba: a, less by 1", x.node(2, 6), 0);
    due("SERIES of bab: b", x.node(3, 6), 1);
    due("SERIES of ababa passes aba, as much longer than its own", x.node(4, 6), 0);
    due("SERIES of aa: a is less by 1, too", of("aa").node(1, 6), NONE);
    due("SERIES of 48 a", of(SAME).node(47, 6), NONE);
    due("SERIES of abba: a", of("abba").node(3, 6), 0);
  }

  private static void nodeCore() {
    MirrorNodes x = of("abbacabba");
    due("LONG of abba", x.node(3, 0), 4);
    due("CORE of one", x.node(0, 7), NONE);
    due("CORE of two", x.node(2, 7), NONE);
    due("CORE of four: bb", x.node(3, 7), 2);
    due("CORE of three: aca is c", x.node(5, 7), 4);
    due("CORE of five: bacab is aca", x.node(6, 7), 5);
    due("CORE of aaa: a", of("aaa").node(2, 7), 0);
  }
}
