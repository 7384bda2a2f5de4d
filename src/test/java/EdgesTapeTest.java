/** The edges that the promises 22 to 25 name: the tape. */
public final class EdgesTapeTest extends Edges {
  private static final int[] NO_BYTES = {-1, 256, 257, 97 + 256, 97 - 256, 97 + 65536, 97 + LOW, -97, LOW, HIGH};
  private static final char[] NO_LETTERS = {0, 1, 96, 103, 'A', 127, 128, 254, 255};

  public static void main(String[] args) {
    sentence(22, "a byte (0 .. 255): the least and the greatest", EdgesTapeTest::feedLeastAndGreatest);
    sentence(22, "BAD: no byte", EdgesTapeTest::feedNoByte);
    sentence(22, "how many it has: 1 to 48", EdgesTapeTest::feed48);
    sentence(22, "FULL", EdgesTapeTest::feedFull);
    sentence(22, "BAD ahead of FULL", EdgesTapeTest::feedBadAheadOfFull);
    sentence(22, "FULL no more, when it was emptied", EdgesTapeTest::feedAfterFull);
    sentence(22, "a byte that comes is no ACT", EdgesTapeTest::feedIsNoAct);

    sentence(23, "no bytes", EdgesTapeTest::clearOfNone);
    sentence(23, "48 bytes", EdgesTapeTest::clearOf48);
    sentence(23, "THE TAPE is empty, and all else stays", EdgesTapeTest::clearOnlyTheTape);

    sentence(24, "NONE: THE TAPE is empty", EdgesTapeTest::findNothing);
    sentence(24, "NONE: no LETTERS in THE TEXT", EdgesTapeTest::findInNone);
    sentence(24, "NONE: it STANDS, but is no PALINDROME", EdgesTapeTest::findNoPalindrome);
    sentence(24, "NONE: a PALINDROME that does not STAND", EdgesTapeTest::findNowhere);
    sentence(24, "NONE: a byte that is no LETTER", EdgesTapeTest::findNoLetter);
    sentence(24, "NONE: longer than THE TEXT", EdgesTapeTest::findTooLong);
    sentence(24, "the first and the last NODE, 48 LETTERS", EdgesTapeTest::findOf48);
    sentence(24, "nothing changes", EdgesTapeTest::findChangesNothing);

    sentence(25, "0: it is empty", EdgesTapeTest::timesOfNothing);
    sentence(25, "0: it has a byte that is no LETTER", EdgesTapeTest::timesOfNoLetter);
    sentence(25, "0: no LETTERS in THE TEXT", EdgesTapeTest::timesInNone);
    sentence(25, "0: longer than THE TEXT", EdgesTapeTest::timesOfTooLong);
    sentence(25, "at the first and the last place", EdgesTapeTest::timesAtEnds);
    sentence(25, "48 places, one place of 48 LETTERS", EdgesTapeTest::timesOf48);
    sentence(25, "places that overlap; what is no PALINDROME, too", EdgesTapeTest::timesOverlapping);
    sentence(25, "nothing changes", EdgesTapeTest::timesChangesNothing);
    end(22, 25);
  }

  private static void feedLeastAndGreatest() {
    MirrorNodes x = new MirrorNodes();
    due("feed(0)", x.feed(0), 1);
    due("feed(255)", x.feed(255), 2);
    due("feed(1)", x.feed(1), 3);
    due("feed(254)", x.feed(254), 4);
    due("feed(128)", x.feed(128), 5);
    due("count(7)", x.count(7), 5);
  }

  private static void feedNoByte() {
    for (int letter : NO_BYTES) {
      stays("feed(" + letter + ")", NEW, x -> x.feed(letter), BAD);
      stays("feed(" + letter + ")", SOME, x -> x.feed(letter), BAD);
    }
  }

  private static void feed48() {
    MirrorNodes x = of("a");
    for (int i = 1; i <= 48; i++) {
      due("feed(97) as byte " + i, x.feed('a'), i);
      due("count(7)", x.count(7), i);
    }
  }

  private static void feedFull() {
    for (int letter : new int[] {0, 'a', 'f', 255}) {
      stays("feed(" + letter + ") on 48", ALL, x -> x.feed(letter), FULL);
    }
  }

  private static void feedBadAheadOfFull() {
    for (int letter : NO_BYTES) {
      stays("feed(" + letter + ") on 48", ALL, x -> x.feed(letter), BAD);
    }
  }

  private static void feedAfterFull() {
    MirrorNodes x = of("fa", PLAIN);
    due("feed(97)", x.feed('a'), FULL);
    x.clear();
    due("feed(102) behind clear()", x.feed('f'), 1);
    due("the tape is f alone", x.find(), 0);
  }

  private static void feedIsNoAct() {
    MirrorNodes x = of("ab", "ab");
    due("count(6)", x.count(6), 2);
    x.undo();
    due("count(7)", x.count(7), 2);
  }

  private static void clearOfNone() {
    stays("clear()", NEW, x -> x.clear(), 0);
    Held emptied = new Held("", x -> putAll(x, "aba"), x -> x.feed('a'), x -> x.clear());
    stays("clear() again", emptied, x -> x.clear(), 0);
  }

  private static void clearOf48() {
    MirrorNodes x = ALL.make();
    due("clear()", x.clear(), 48);
    due("count(7)", x.count(7), 0);
    due("find()", x.find(), NONE);
    due("times()", x.times(), 0);
    due("clear()", x.clear(), 0);
  }

  private static void clearOnlyTheTape() {
    MirrorNodes x = SOME.make();
    due("clear()", x.clear(), 5);
    due("count(7)", x.count(7), 0);
    due("acts", x.count(6), 11);
    dueText("clear()", x, SOME_TEXT);
    due("image 0", x.back(0), 4);
    dueItems("clear()", x, 0, 0, "ab|");
  }

  private static void findNothing() {
    stays("find()", NEW, x -> x.find(), NONE);
    due("find() in 48 letters", of(SAME).find(), NONE);
    MirrorNodes x = of("aba", "aba");
    due("find()", x.find(), 2);
    x.clear();
    due("find() behind clear()", x.find(), NONE);
  }

  private static void findInNone() {
    Held none = new Held("a", x -> x.feed('a'));
    stays("find() of a in no letters", none, x -> x.find(), NONE);
    MirrorNodes x = of("a", "a");
    due("find()", x.find(), 0);
    x.pop();
    due("find() of what was taken off", x.find(), NONE);
  }

  private static void findNoPalindrome() {
    due("find() of ab in ab", of("ab", "ab").find(), NONE);
    due("find() of abc in abcabc", of("abcabc", "abc").find(), NONE);
    due("find() of 48 letters in themselves", of(PLAIN, PLAIN).find(), NONE);
  }

  private static void findNowhere() {
    due("find() of aa in aba", of("aba", "aa").find(), NONE);
    due("find() of c in abab", of("abab", "c").find(), NONE);
    due("find() of bab in abba", of("abba", "bab").find(), NONE);
  }

  private static void findNoLetter() {
    for (char letter : NO_LETTERS) {
      due("find() of byte " + (int) letter, of("abcdef", "" + letter).find(), NONE);
      due("find() of a and byte " + (int) letter, of("abcdefa", "a" + letter + "a").find(), NONE);
    }
  }

  private static void findTooLong() {
    due("find() of aa in a", of("a", "aa").find(), NONE);
    due("find() of aba in ab", of("ab", "aba").find(), NONE);
    due("find() of 48 in 47", of(SAME.substring(1), SAME).find(), NONE);
    MirrorNodes x = of("aa", "aa");
    x.pop();
    due("find() of aa, a letter taken off", x.find(), NONE);
  }

  private static void findOf48() {
    due("find() of a", of(SAME, "a").find(), 0);
    due("find() of 47", of(SAME, SAME.substring(1)).find(), 46);
    due("find() of 48", of(SAME, SAME).find(), 47);
    due("find() of 48", of(RICH, RICH).find(), 47);
  }

  private static void findChangesNothing() {
    stays("find()", SOME, x -> x.find(), 4);
    stays("find()", ALL, x -> x.find(), 47);
  }

  private static void timesOfNothing() {
    stays("times()", NEW, x -> x.times(), 0);
    due("times() in 48 letters", of(SAME).times(), 0);
    MirrorNodes x = of("aba", "a");
    due("times()", x.times(), 2);
    x.clear();
    due("times() behind clear()", x.times(), 0);
  }

  private static void timesOfNoLetter() {
    for (char letter : NO_LETTERS) {
      due("times() of byte " + (int) letter, of("abcdef", "" + letter).times(), 0);
      due("times() of a and byte " + (int) letter, of("abcdef", "a" + letter).times(), 0);
      due("times() of byte " + (int) letter + " and a", of("abcdef", letter + "a").times(), 0);
    }
  }

  private static void timesInNone() {
    Held none = new Held("a", x -> x.feed('a'));
    stays("times() of a in no letters", none, x -> x.times(), 0);
    MirrorNodes x = of("aa", "a");
    x.pop();
    due("times(), one taken off", x.times(), 1);
    x.pop();
    due("times(), both taken off", x.times(), 0);
  }

  private static void timesOfTooLong() {
    due("times() of aa in a", of("a", "aa").times(), 0);
    due("times() of 48 in 47", of(SAME.substring(1), SAME).times(), 0);
    MirrorNodes x = of("ab", "ab");
    x.pop();
    due("times() of ab, b taken off", x.times(), 0);
  }

  private static void timesAtEnds() {
    due("times() of abc in abcdabc", of("abcdabc", "abc").times(), 2);
    due("times() of all", of("abcd", "abcd").times(), 1);
    due("times() of the first letter", of("abcd", "a").times(), 1);
    due("times() of the last letter", of("abcd", "d").times(), 1);
  }

  private static void timesOf48() {
    due("times() of a", of(SAME, "a").times(), 48);
    due("times() of aa", of(SAME, "aa").times(), 47);
    due("times() of 47", of(SAME, SAME.substring(1)).times(), 2);
    due("times() of 48", of(SAME, SAME).times(), 1);
    due("times() of 48", of(PLAIN, PLAIN).times(), 1);
    due("times() of 48, the last byte another", of(PLAIN, PLAIN.substring(0, 47) + "a").times(), 0);
  }

  private static void timesOverlapping() {
    due("times() of aba in ababa", of("ababa", "aba").times(), 2);
    due("times() of aa in aaaa", of("aaaa", "aa").times(), 3);
    due("times() of abca in abcabca", of("abcabca", "abca").times(), 2);
  }

  private static void timesChangesNothing() {
    stays("times()", SOME, x -> x.times(), 1);
    stays("times()", ALL, x -> x.times(), 1);
  }
}
