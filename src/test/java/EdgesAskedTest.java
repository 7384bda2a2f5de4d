/** The edges that the promises 11 to 21 name: what is asked of the text. */
public final class EdgesAskedTest extends Edges {
  private static final int LAST = SOME_TEXT.length() - 1;
  private static final int[] NO_LETTERS = {
    96, 103, 0, -1, 'A', -97, 97 + 128, 97 + 256, 97 - 256, 97 + 65536, 97 + LOW, LOW, HIGH};

  public static void main(String[] args) {
    sentence(11, "the least and the greatest place", EdgesAskedTest::endsAtEnds);
    sentence(11, "BAD: no such place", EdgesAskedTest::endsNoPlace);
    sentence(11, "BAD: no LETTERS", EdgesAskedTest::endsOfNone);
    sentence(11, "BAD: k below -1, too", EdgesAskedTest::endsBelow);
    sentence(11, "k -1; 0 on; the longest first", EdgesAskedTest::endsInOrder);
    sentence(11, "NONE: not so many", EdgesAskedTest::endsNotSoMany);
    sentence(11, "48 of them", EdgesAskedTest::endsOf48);

    sentence(12, "the least and the greatest place", EdgesAskedTest::groupsAtEnds);
    sentence(12, "BAD: no such place", EdgesAskedTest::groupsNoPlace);
    sentence(12, "BAD: no LETTERS", EdgesAskedTest::groupsOfNone);
    sentence(12, "1, and as many more as there are by SERIES", EdgesAskedTest::groupsByMore);
    sentence(12, "of 48", EdgesAskedTest::groupsOf48);

    sentence(13, "n 0", EdgesAskedTest::cutsOfNothing);
    sentence(13, "BAD: n beyond 0 .. LETTERS", EdgesAskedTest::cutsBeyond);
    sentence(13, "BAD: k below -1", EdgesAskedTest::cutsBelow);
    sentence(13, "NONE: not so many", EdgesAskedTest::cutsNotSoMany);
    sentence(13, "the first n LETTERS: n 1 to LETTERS", EdgesAskedTest::cutsOfFirst);
    sentence(13, "of several ways that by which the first is least LONG", EdgesAskedTest::cutsFirst);
    sentence(13, "of these the second, and so on", EdgesAskedTest::cutsSecond);
    sentence(13, "48 of one LETTER, one of 48", EdgesAskedTest::cutsOf48);
    sentence(13, "asked anew, of fewer LETTERS", EdgesAskedTest::cutsAnew);

    sentence(14, "n 0", EdgesAskedTest::evensOfNothing);
    sentence(14, "BAD: n beyond 0 .. LETTERS", EdgesAskedTest::evensBeyond);
    sentence(14, "NONE: an odd number of LETTERS", EdgesAskedTest::evensOfOdd);
    sentence(14, "NONE: no way", EdgesAskedTest::evensNoWay);
    sentence(14, "the fewest", EdgesAskedTest::evensFewest);
    sentence(14, "24 of two LETTERS, one of 48", EdgesAskedTest::evensOf48);
    sentence(14, "asked anew, of fewer LETTERS", EdgesAskedTest::evensAnew);

    sentence(15, "BAD: i below 0", EdgesAskedTest::inBelow);
    sentence(15, "BAD: j below i", EdgesAskedTest::inBackward);
    sentence(15, "BAD: beyond the end", EdgesAskedTest::inBeyond);
    sentence(15, "BAD: what", EdgesAskedTest::inWhat);
    sentence(15, "0: it has no LETTERS; NONE", EdgesAskedTest::inNothing);
    sentence(15, "from place i on, ahead of place j: one LETTER", EdgesAskedTest::inOne);
    sentence(15, "STANDS wholly in it", EdgesAskedTest::inWholly);
    sentence(15, "the least place of those as LONG", EdgesAskedTest::inLeastPlace);
    sentence(15, "of 48", EdgesAskedTest::inOf48);
    sentence(15, "asked anew, of fewer LETTERS", EdgesAskedTest::inAnew);

    sentence(16, "BAD: what", EdgesAskedTest::mendWhat);
    sentence(16, "or has no LETTERS", EdgesAskedTest::mendOfNone);
    sentence(16, "one LETTER, two LETTERS", EdgesAskedTest::mendOfOne);
    sentence(16, "at least: what a PALINDROME needs, 0", EdgesAskedTest::mendOfPalindrome);
    sentence(16, "of 48", EdgesAskedTest::mendOf48);
    sentence(16, "asked anew, of fewer LETTERS", EdgesAskedTest::mendAnew);

    sentence(17, "BAD: what", EdgesAskedTest::turnedWhat);
    sentence(17, "k 0 to LETTERS less 1: no LETTERS", EdgesAskedTest::turnedOfNone);
    sentence(17, "k 0 to LETTERS less 1: one LETTER", EdgesAskedTest::turnedOfOne);
    sentence(17, "k 0 to LETTERS less 1: the least, the greatest", EdgesAskedTest::turnedAtEnds);
    sentence(17, "NONE", EdgesAskedTest::turnedNone);
    sentence(17, "of 48", EdgesAskedTest::turnedOf48);

    sentence(18, "the least and the greatest LETTER", EdgesAskedTest::nextLeastAndGreatest);
    sentence(18, "BAD: no LETTER", EdgesAskedTest::nextNoLetter);
    sentence(18, "BAD: what", EdgesAskedTest::nextWhat);
    sentence(18, "on no LETTERS", EdgesAskedTest::nextOnNone);
    sentence(18, "on 47", EdgesAskedTest::nextOn47);
    sentence(18, "FULL", EdgesAskedTest::nextFull);
    sentence(18, "BAD ahead of FULL", EdgesAskedTest::nextBadAheadOfFull);
    sentence(18, "whether there were a NODE more: 1, 0", EdgesAskedTest::nextNode);

    sentence(19, "n (0 to 3): the least", EdgesAskedTest::growByNone);
    sentence(19, "n (0 to 3): the greatest", EdgesAskedTest::growBy3);
    sentence(19, "BAD: n", EdgesAskedTest::growBadN);
    sentence(19, "BAD: k", EdgesAskedTest::growBadK);
    sentence(19, "NONE: not so many", EdgesAskedTest::growNotSoMany);
    sentence(19, "just 48 LETTERS", EdgesAskedTest::growTo48);
    sentence(19, "FULL: there would be more than 48 LETTERS", EdgesAskedTest::growFull);
    sentence(19, "BAD ahead of FULL", EdgesAskedTest::growBadAheadOfFull);
    sentence(19, "FULL, be there so many or not (NOTES.md: a choice)", EdgesAskedTest::growFullAheadOfNone);
    sentence(19, "the first (a ahead of b, LETTER by LETTER)", EdgesAskedTest::growFirst);
    sentence(19, "on no LETTERS", EdgesAskedTest::growOnNone);
    sentence(19, "asked anew, by fewer LETTERS", EdgesAskedTest::growAnew);

    sentence(20, "n (0 to 4), m (0 .. 9): the least", EdgesAskedTest::oddsLeast);
    sentence(20, "n (0 to 4), m (0 .. 9): the greatest", EdgesAskedTest::oddsGreatest);
    sentence(20, "BAD: n", EdgesAskedTest::oddsBadN);
    sentence(20, "BAD: m", EdgesAskedTest::oddsBadM);
    sentence(20, "BAD: what", EdgesAskedTest::oddsBadWhat);
    sentence(20, "just 48 LETTERS", EdgesAskedTest::oddsTo48);
    sentence(20, "FULL: there would be more than 48 LETTERS", EdgesAskedTest::oddsFull);
    sentence(20, "BAD ahead of FULL", EdgesAskedTest::oddsBadAheadOfFull);
    sentence(20, "parts are told in lowest terms", EdgesAskedTest::oddsLowestTerms);
    sentence(20, "m NODES more, or yet more", EdgesAskedTest::oddsOrMore);

    sentence(21, "n (0 .. 60): the least", EdgesAskedTest::walksOfNone);
    sentence(21, "n (0 .. 60): the greatest", EdgesAskedTest::walksOf60);
    sentence(21, "BAD: n", EdgesAskedTest::walksBadN);
    sentence(21, "a SEED 1 .. 999999: the least and the greatest", EdgesAskedTest::walksSeeds);
    sentence(21, "BAD: a SEED", EdgesAskedTest::walksBadSeed);
    sentence(21, "BAD: what", EdgesAskedTest::walksBadWhat);
    sentence(21, "the rest of 16807 times X by 2147483647, beyond an int", EdgesAskedTest::walksWrapAround);
    sentence(21, "X by 64 (cut) leaves 0 by 4", EdgesAskedTest::walksCut);
    sentence(21, "and THE TEXT has LETTERS", EdgesAskedTest::walksOnNone);
    sentence(21, "or if it has 48", EdgesAskedTest::walksOn48);
    sentence(21, "nothing changing", EdgesAskedTest::walksChangesNothing);
    end(11, 21);
  }

  private static void endsAtEnds() {
    stays("ends(0, -1)", SOME, x -> x.ends(0, -1), 1);
    stays("ends(0, 0)", SOME, x -> x.ends(0, 0), 1);
    stays("ends of the last place: bb, b", SOME, x -> x.ends(LAST, -1), 2);
    stays("ends of the last place, the longest", SOME, x -> x.ends(LAST, 0), 2);
    due("ends(0, -1) of one letter", of("f").ends(0, -1), 1);
  }

  private static void endsNoPlace() {
    for (int place : new int[] {-1, LAST + 1, LAST + 2, 47, 48, LOW, HIGH}) {
      stays("ends(" + place + ", -1)", SOME, x -> x.ends(place, -1), BAD);
      stays("ends(" + place + ", 0)", SOME, x -> x.ends(place, 0), BAD);
      stays("ends(" + place + ", HIGH)", SOME, x -> x.ends(place, HIGH), BAD);
    }
    stays("ends(48, -1) of 48", ALL, x -> x.ends(48, -1), BAD);
    stays("ends(-1, -1) of 48", ALL, x -> x.ends(-1, -1), BAD);
  }

  private static void endsOfNone() {
    stays("ends(0, -1)", NEW, x -> x.ends(0, -1), BAD);
    stays("ends(-1, -1)", NEW, x -> x.ends(-1, -1), BAD);
    MirrorNodes x = of("a");
    x.pop();
    due("ends(0, -1), the letter taken off", x.ends(0, -1), BAD);
  }

  private static void endsBelow() {
    for (int k : new int[] {-2, -3, LOW}) {
      stays("ends(0, " + k + ")", SOME, x -> x.ends(0, k), BAD);
      stays("ends(9, " + k + ")", SOME, x -> x.ends(9, k), BAD);
      stays("ends(47, " + k + ")", ALL, x -> x.ends(47, k), BAD);
    }
  }

  private static void endsInOrder() {
    MirrorNodes x = of("cabaaba");
    int[] longs = {6, 3, 1};
    due("ends(6, -1)", x.ends(6, -1), 3);
    for (int k = 0; k < 3; k++) {
      due("ends(6, " + k + ")", x.ends(6, k), longs[k]);
    }
    due("ends(5, 0): not beyond the place", x.ends(5, 0), 4);
    due("ends(5, -1): baab, b", x.ends(5, -1), 2);
  }

  private static void endsNotSoMany() {
    for (int k : new int[] {2, 3, 48, HIGH}) {
      stays("ends of the last place, " + k, SOME, x -> x.ends(LAST, k), NONE);
    }
    stays("ends(0, 1)", SOME, x -> x.ends(0, 1), NONE);
  }

  private static void endsOf48() {
    MirrorNodes x = of(SAME);
    due("ends(47, -1)", x.ends(47, -1), 48);
    due("ends(47, 0)", x.ends(47, 0), 48);
    due("ends(47, 47)", x.ends(47, 47), 1);
    due("ends(47, 48)", x.ends(47, 48), NONE);
    due("ends(0, -1)", x.ends(0, -1), 1);
    due("ends(48, -1)", x.ends(48, -1), BAD);
    due("ends(47, -1) of no two alike", of(PLAIN).ends(47, -1), 1);
  }

  private static void groupsAtEnds() {
    stays("groups(0)", SOME, x -> x.groups(0), 1);
    stays("groups of the last place: bb, b", SOME, x -> x.groups(LAST), 1);
    stays("groups(6): bacab, b", SOME, x -> x.groups(6), 2);
    due("groups(0) of one letter", of("f").groups(0), 1);
  }

  private static void groupsNoPlace() {
    for (int place : new int[] {-1, LAST + 1, LAST + 2, 47, 48, LOW, HIGH}) {
      stays("groups(" + place + ")", SOME, x -> x.groups(place), BAD);
    }
    stays("groups(48) of 48", ALL, x -> x.groups(48), BAD);
    stays("groups(-1) of 48", ALL, x -> x.groups(-1), BAD);
  }

  private static void groupsOfNone() {
    stays("groups(0)", NEW, x -> x.groups(0), BAD);
    stays("groups(-1)", NEW, x -> x.groups(-1), BAD);
    MirrorNodes x = of("a");
    x.pop();
    due("groups(0), the letter taken off", x.groups(0), BAD);
  }

  private static void groupsByMore() {
    due("abababa: less by 2 thrice, a by 1", of("abababa").groups(6), 2);
    due("aa", of("aa").groups(1), 1);
    due("abacabadabacaba: less by 8, 4, 2, 1", of("abacabadabacaba").groups(14), 4);
    due("aabaaabaa: 4, 3, 1 and 1", of("aabaaabaa").groups(8), 3);
    due("groups ahead of the end", of("abacabadabacaba").groups(6), 3);
  }

  private static void groupsOf48() {
    due("48 like letters", of(SAME).groups(47), 1);
    due("no two alike", of(PLAIN).groups(47), 1);
    stays("groups(47): less by 33, 8, 4, 2, 1", ALL, x -> x.groups(47), 5);
  }

  private static void cutsOfNothing() {
    stays("cuts(0, -1)", NEW, x -> x.cuts(0, -1), 0);
    stays("cuts(0, 0)", NEW, x -> x.cuts(0, 0), NONE);
    stays("cuts(0, -1)", SOME, x -> x.cuts(0, -1), 0);
    stays("cuts(0, 0)", SOME, x -> x.cuts(0, 0), NONE);
    stays("cuts(0, HIGH)", SOME, x -> x.cuts(0, HIGH), NONE);
    stays("cuts(0, -1) of 48", ALL, x -> x.cuts(0, -1), 0);
  }

  private static void cutsBeyond() {
    for (int n : new int[] {-1, -2, LAST + 2, 48, 49, LOW, HIGH}) {
      stays("cuts(" + n + ", -1)", SOME, x -> x.cuts(n, -1), BAD);
      stays("cuts(" + n + ", 0)", SOME, x -> x.cuts(n, 0), BAD);
      stays("cuts(" + n + ", HIGH)", SOME, x -> x.cuts(n, HIGH), BAD);
    }
    stays("cuts(1, -1) of no letters", NEW, x -> x.cuts(1, -1), BAD);
    stays("cuts(49, -1) of 48", ALL, x -> x.cuts(49, -1), BAD);
  }

  private static void cutsBelow() {
    for (int k : new int[] {-2, -3, LOW}) {
      stays("cuts(0, " + k + ")", NEW, x -> x.cuts(0, k), BAD);
      stays("cuts(3, " + k + ")", SOME, x -> x.cuts(3, k), BAD);
      stays("cuts(48, " + k + ")", ALL, x -> x.cuts(48, k), BAD);
    }
  }

  private static void cutsNotSoMany() {
    MirrorNodes x = of("aab");
    due("cuts(3, 1)", x.cuts(3, 1), 1);
    for (int k : new int[] {2, 3, 48, 49, 1000, HIGH}) {
      due("cuts(3, " + k + ")", x.cuts(3, k), NONE);
    }
    stays("cuts(48, 1) of one palindrome", ALL, y -> y.cuts(48, 1), NONE);
  }

  private static void cutsOfFirst() {
    // acbacabb: a c bacab b, or a c b aca bb, ..
    int[] fewest = {0, 1, 2, 3, 4, 5, 4, 3, 4};
    for (int n = 1; n <= SOME_TEXT.length(); n++) {
      int first = n;
      stays("cuts(" + n + ", -1)", SOME, x -> x.cuts(first, -1), fewest[n]);
    }
    MirrorNodes x = of("abba");
    due("cuts(1, 0)", x.cuts(1, 0), 1);
    due("cuts(3, -1): a bb", x.cuts(3, -1), 2);
    due("cuts(3, 1)", x.cuts(3, 1), 2);
    due("cuts(4, -1)", x.cuts(4, -1), 1);
    due("cuts(4, 0)", x.cuts(4, 0), 4);
  }

  private static void cutsFirst() {
    dueWay("abaca: a b aca, or aba c a", "abaca", 1, 1, 3);
    dueWay("aabaab: aa baab, or aabaa b", "aabaab", 2, 4);
    dueWay("babacab: b a bacab, or bab aca b", "babacab", 1, 1, 5);
    dueWay("abbab: abba b, though its first is longer than that of a b bab", "abbab", 4, 1);
  }

  private static void cutsSecond() {
    dueWay("abacdcd: aba c dcd, or aba cdc d", "abacdcd", 3, 1, 3);
    dueWay("fabaca: f a b aca, or f aba c a", "fabaca", 1, 1, 1, 3);
    dueWay("effabaca: e ff a b aca, or e ff aba c a", "effabaca", 1, 2, 1, 1, 3);
  }

  private static void dueWay(String why, String text, int... longs) {
    MirrorNodes x = of(text);
    due(why + ": how many", x.cuts(text.length(), -1), longs.length);
    for (int k = 0; k < longs.length; k++) {
      due(why + ": piece " + k, x.cuts(text.length(), k), longs[k]);
    }
    due(why + ": no more", x.cuts(text.length(), longs.length), NONE);
  }

  private static void cutsOf48() {
    MirrorNodes plain = of(PLAIN);
    due("cuts(48, -1)", plain.cuts(48, -1), 48);
    for (int k = 0; k < 48; k++) {
      due("cuts(48, " + k + ")", plain.cuts(48, k), 1);
    }
    due("cuts(48, 48)", plain.cuts(48, 48), NONE);
    stays("cuts(48, -1) of one palindrome", ALL, x -> x.cuts(48, -1), 1);
    stays("cuts(48, 0) of one palindrome", ALL, x -> x.cuts(48, 0), 48);
    due("cuts(47, 0): all but the last of 48 like letters", of(SAME).cuts(47, 0), 47);
  }

  private static void cutsAnew() {
    MirrorNodes x = of(PLAIN);
    due("cuts(48, 47)", x.cuts(48, 47), 1);
    write(x, "aabaa");
    due("cuts(5, -1)", x.cuts(5, -1), 1);
    due("cuts(3, -1)", x.cuts(3, -1), 2);
    due("cuts(3, 0)", x.cuts(3, 0), 2);
    due("cuts(3, 1)", x.cuts(3, 1), 1);
    due("cuts(3, 2)", x.cuts(3, 2), NONE);
    due("cuts(0, -1)", x.cuts(0, -1), 0);
    due("cuts(0, 0)", x.cuts(0, 0), NONE);
  }

  private static void evensOfNothing() {
    stays("evens(0)", NEW, x -> x.evens(0), 0);
    stays("evens(0)", SOME, x -> x.evens(0), 0);
    stays("evens(0) of 48", ALL, x -> x.evens(0), 0);
  }

  private static void evensBeyond() {
    for (int n : new int[] {-1, -2, LAST + 2, LAST + 3, 48, 49, LOW, HIGH}) {
      stays("evens(" + n + ")", SOME, x -> x.evens(n), BAD);
    }
    stays("evens(1) of no letters", NEW, x -> x.evens(1), BAD);
    stays("evens(-1) of no letters", NEW, x -> x.evens(-1), BAD);
    stays("evens(49) of 48", ALL, x -> x.evens(49), BAD);
    stays("evens(50) of 48", ALL, x -> x.evens(50), BAD);
  }

  private static void evensOfOdd() {
    MirrorNodes x = of(SAME);
    for (int n = 1; n < 48; n += 2) {
      due("evens(" + n + ")", x.evens(n), NONE);
    }
    due("evens(3) of aba, one odd palindrome", of("aba").evens(3), NONE);
  }

  private static void evensNoWay() {
    due("evens(2) of ab", of("ab").evens(2), NONE);
    due("evens(4) of aaab", of("aaab").evens(4), NONE);
    due("evens(4) of abaa: aa behind what has none", of("abaa").evens(4), NONE);
    due("evens(6) of abacaa", of("abacaa").evens(6), NONE);
    due("evens(48) of no two alike", of(PLAIN).evens(48), NONE);
    stays("evens of all", SOME, x -> x.evens(LAST + 1), NONE);
  }

  private static void evensFewest() {
    MirrorNodes x = of("aabbaa");
    due("evens(2)", x.evens(2), 1);
    due("evens(4): aa bb", x.evens(4), 2);
    due("evens(6): one, not three", x.evens(6), 1);
    due("evens(6) of aaaabb: aaaa bb", of("aaaabb").evens(6), 2);
    due("evens(6) of abbacc: abba cc", of("abbacc").evens(6), 2);
  }

  private static void evensOf48() {
    due("evens(48) of 24 pairs", of("aabbcc".repeat(8)).evens(48), 24);
    due("evens(46) of 24 pairs", of("aabbcc".repeat(8)).evens(46), 23);
    stays("evens(48)", ALL, x -> x.evens(48), 1);
  }

  private static void evensAnew() {
    MirrorNodes x = of("aabbaa");
    due("cuts(6, -1)", x.cuts(6, -1), 1);
    due("evens(6)", x.evens(6), 1);
    due("evens(5)", x.evens(5), NONE);
    due("evens(4)", x.evens(4), 2);
    due("evens(3)", x.evens(3), NONE);
    due("evens(0)", x.evens(0), 0);
    due("cuts(3, 1) behind evens", x.cuts(3, 1), 1);
  }

  private static void inBelow() {
    for (int i : new int[] {-1, -2, LOW}) {
      for (int what = 0; what < 3; what++) {
        int asked = what;
        stays("in(" + i + ", 3, " + what + ")", SOME, x -> x.in(i, 3, asked), BAD);
        stays("in(" + i + ", " + i + ", " + what + ")", SOME, x -> x.in(i, i, asked), BAD);
      }
    }
    stays("in(-1, 0, 0) of no letters", NEW, x -> x.in(-1, 0, 0), BAD);
  }

  private static void inBackward() {
    stays("in(1, 0, 0)", SOME, x -> x.in(1, 0, 0), BAD);
    stays("in(3, 2, 1)", SOME, x -> x.in(3, 2, 1), BAD);
    stays("in(all, all less 1, 2)", SOME, x -> x.in(LAST + 1, LAST, 2), BAD);
    stays("in(0, -1, 0)", SOME, x -> x.in(0, -1, 0), BAD);
    stays("in(0, LOW, 0)", SOME, x -> x.in(0, LOW, 0), BAD);
    stays("in(HIGH, 0, 0)", SOME, x -> x.in(HIGH, 0, 0), BAD);
    stays("in(48, 47, 0) of 48", ALL, x -> x.in(48, 47, 0), BAD);
  }

  private static void inBeyond() {
    for (int j : new int[] {LAST + 2, LAST + 3, 48, 49, HIGH}) {
      stays("in(0, " + j + ", 0)", SOME, x -> x.in(0, j, 0), BAD);
      stays("in(" + j + ", " + j + ", 2)", SOME, x -> x.in(j, j, 2), BAD);
    }
    stays("in(0, 1, 0) of no letters", NEW, x -> x.in(0, 1, 0), BAD);
    stays("in(1, 1, 0) of no letters", NEW, x -> x.in(1, 1, 0), BAD);
    stays("in(0, 49, 0) of 48", ALL, x -> x.in(0, 49, 0), BAD);
    stays("in(49, 49, 0) of 48", ALL, x -> x.in(49, 49, 0), BAD);
  }

  private static void inWhat() {
    for (int what : new int[] {-1, 3, 4, LOW, HIGH}) {
      stays("in(0, 3, " + what + ")", SOME, x -> x.in(0, 3, what), BAD);
      stays("in(0, 0, " + what + ") of no letters", NEW, x -> x.in(0, 0, what), BAD);
    }
  }

  private static void inNothing() {
    int[] due = {0, NONE, 0};
    for (int what = 0; what < 3; what++) {
      int asked = what;
      stays("in(0, 0, " + what + ") of no letters", NEW, x -> x.in(0, 0, asked), due[what]);
      for (int i : new int[] {0, 4, LAST + 1}) {
        stays("in(" + i + ", " + i + ", " + what + ")", SOME, x -> x.in(i, i, asked), due[what]);
      }
      stays("in(48, 48, " + what + ")", ALL, x -> x.in(48, 48, asked), due[what]);
    }
  }

  private static void inOne() {
    for (int i : new int[] {0, 3, LAST}) {
      stays("in(" + i + ", " + (i + 1) + ", 0)", SOME, x -> x.in(i, i + 1, 0), 1);
      stays("in(" + i + ", " + (i + 1) + ", 1)", SOME, x -> x.in(i, i + 1, 1), i);
      stays("in(" + i + ", " + (i + 1) + ", 2)", SOME, x -> x.in(i, i + 1, 2), 1);
    }
  }

  private static void inWholly() {
    MirrorNodes x = of("cabbad");
    due("in(1, 5, 0): abba", x.in(1, 5, 0), 4);
    due("in(1, 5, 1)", x.in(1, 5, 1), 1);
    due("in(1, 5, 2): a, b, bb, abba", x.in(1, 5, 2), 4);
    due("in(1, 4, 0): not its last letter", x.in(1, 4, 0), 2);
    due("in(2, 5, 0): not its first letter", x.in(2, 5, 0), 2);
    due("in(2, 5, 1)", x.in(2, 5, 1), 2);
    due("in(2, 5, 2): b, bb, a", x.in(2, 5, 2), 3);
    due("in(3, 5, 0)", x.in(3, 5, 0), 1);
    due("in(0, 6, 0)", x.in(0, 6, 0), 4);
    due("in(0, 6, 2)", x.in(0, 6, 2), 6);
  }

  private static void inLeastPlace() {
    MirrorNodes x = of("abacabadd");
    due("in(0, 5, 1): aba, not aca", x.in(0, 5, 1), 0);
    due("in(1, 5, 1): aca", x.in(1, 5, 1), 2);
    due("in(4, 9, 1): aba", x.in(4, 9, 1), 4);
    due("in(5, 9, 1): dd, behind letters", x.in(5, 9, 1), 7);
    MirrorNodes twice = of("abbcabbc");
    due("in(0, 8, 1): bb, the first of two", twice.in(0, 8, 1), 1);
    due("in(2, 8, 1): bb, the other", twice.in(2, 8, 1), 5);
    due("in(2, 5, 1): no two alike", twice.in(2, 5, 1), 2);
  }

  private static void inOf48() {
    stays("in(0, 48, 0)", ALL, x -> x.in(0, 48, 0), 48);
    stays("in(0, 48, 1)", ALL, x -> x.in(0, 48, 1), 0);
    stays("in(0, 48, 2)", ALL, x -> x.in(0, 48, 2), 48);
    stays("in(47, 48, 1)", ALL, x -> x.in(47, 48, 1), 47);
    MirrorNodes same = of(SAME);
    due("in(1, 48, 0)", same.in(1, 48, 0), 47);
    due("in(1, 48, 1)", same.in(1, 48, 1), 1);
    due("in(1, 48, 2)", same.in(1, 48, 2), 47);
  }

  private static void inAnew() {
    MirrorNodes x = of("abbacabba");
    due("in(0, 9, 2): a, b, bb, abba, c, aca, bacab, bbacabb, all", x.in(0, 9, 2), 9);
    due("in(0, 1, 2)", x.in(0, 1, 2), 1);
    due("in(0, 1, 0)", x.in(0, 1, 0), 1);
    due("in(3, 5, 2): a, c", x.in(3, 5, 2), 2);
    due("in(3, 5, 1)", x.in(3, 5, 1), 3);
    due("in(5, 5, 2)", x.in(5, 5, 2), 0);
    due("in(0, 9, 0)", x.in(0, 9, 0), 9);
  }

  private static void mendWhat() {
    stays("mend(0)", SOME, x -> x.mend(0), 4);
    stays("mend(1)", SOME, x -> x.mend(1), 3);
    for (int what : new int[] {-1, 2, 3, LOW, HIGH}) {
      stays("mend(" + what + ")", NEW, x -> x.mend(what), BAD);
      stays("mend(" + what + ")", SOME, x -> x.mend(what), BAD);
    }
  }

  private static void mendOfNone() {
    stays("mend(0)", NEW, x -> x.mend(0), 0);
    stays("mend(1)", NEW, x -> x.mend(1), 0);
    MirrorNodes x = of("ab");
    due("mend(1) of ab", x.mend(1), 1);
    x.pop();
    x.pop();
    due("mend(0), all taken off", x.mend(0), 0);
    due("mend(1), all taken off", x.mend(1), 0);
  }

  private static void mendOfOne() {
    due("mend(0) of a", of("a").mend(0), 0);
    due("mend(1) of a", of("a").mend(1), 0);
    due("mend(0) of ab", of("ab").mend(0), 1);
    due("mend(1) of ab", of("ab").mend(1), 1);
    due("mend(0) of aa", of("aa").mend(0), 0);
    due("mend(1) of aa", of("aa").mend(1), 0);
    due("mend(0) of abc: the middle is as it is", of("abc").mend(0), 1);
    due("mend(1) of abc", of("abc").mend(1), 2);
  }

  private static void mendOfPalindrome() {
    for (String text : new String[] {"aba", "abba", "abcba", SAME, RICH}) {
      due("mend(0) of " + text, of(text).mend(0), 0);
      due("mend(1) of " + text, of(text).mend(1), 0);
    }
    due("mend(0) of abca", of("abca").mend(0), 1);
    due("mend(1) of abca", of("abca").mend(1), 1);
    due("mend(0) of abbab: abbba", of("abbab").mend(0), 2);
    due("mend(1) of abbab: babbab", of("abbab").mend(1), 1);
  }

  private static void mendOf48() {
    due("mend(0): each pair unlike", of(PLAIN).mend(0), 24);
    due("mend(1): 15 stay", of(PLAIN).mend(1), 33);
    stays("mend(0)", ALL, x -> x.mend(0), 0);
    stays("mend(1)", ALL, x -> x.mend(1), 0);
    due("mend(1) of 47 a and b", of(SAME.substring(1) + "b").mend(1), 1);
    due("mend(0) of 47 a and b", of(SAME.substring(1) + "b").mend(0), 1);
  }

  private static void mendAnew() {
    MirrorNodes x = of(PLAIN);
    due("mend(1) of 48", x.mend(1), 33);
    due("mend(1) of 48 again", x.mend(1), 33);
    write(x, "aba");
    due("mend(1) of aba", x.mend(1), 0);
    write(x, "abcdef");
    due("mend(1) of abcdef", x.mend(1), 5);
    write(x, "abccba");
    due("mend(1) of abccba", x.mend(1), 0);
    due("mend(0) of abccba", x.mend(0), 0);
  }

  private static void turnedWhat() {
    stays("turned(0)", SOME, x -> x.turned(0), 0);
    for (int what : new int[] {-1, 2, 3, LOW, HIGH}) {
      stays("turned(" + what + ")", NEW, x -> x.turned(what), BAD);
      stays("turned(" + what + ")", SOME, x -> x.turned(what), BAD);
    }
  }

  private static void turnedOfNone() {
    stays("turned(0)", NEW, x -> x.turned(0), 0);
    stays("turned(1)", NEW, x -> x.turned(1), NONE);
  }

  private static void turnedOfOne() {
    due("turned(0) of a", of("a").turned(0), 1);
    due("turned(1) of a", of("a").turned(1), 0);
    due("turned(0) of aa", of("aa").turned(0), 2);
    due("turned(0) of ab", of("ab").turned(0), 0);
  }

  private static void turnedAtEnds() {
    due("turned(0) of aba: by 0 alone, not by 3", of("aba").turned(0), 1);
    due("turned(1) of aba", of("aba").turned(1), 0);
    due("turned(0) of baa: by 2", of("baa").turned(0), 1);
    due("turned(1) of baa", of("baa").turned(1), 2);
    due("turned(0) of abba: by 0 and 2", of("abba").turned(0), 2);
    due("turned(1) of abba", of("abba").turned(1), 0);
    due("turned(0) of baab less one turn, aabb: by 1 and 3", of("aabb").turned(0), 2);
    due("turned(1) of aabb", of("aabb").turned(1), 1);
  }

  private static void turnedNone() {
    stays("turned(1)", SOME, x -> x.turned(1), NONE);
    due("turned(1) of abc", of("abc").turned(1), NONE);
    due("turned(0) of abc", of("abc").turned(0), 0);
  }

  private static void turnedOf48() {
    due("turned(0) of 48 like letters", of(SAME).turned(0), 48);
    due("turned(1) of 48 like letters", of(SAME).turned(1), 0);
    due("turned(0) of no two alike", of(PLAIN).turned(0), 0);
    due("turned(1) of no two alike", of(PLAIN).turned(1), NONE);
    String last = RICH.substring(1) + RICH.charAt(0);
    due("turned(1): by 47 or by 23", of(last).turned(1), 23);
    due("turned(0)", of(last).turned(0), 2);
    due("turned(1) of b and 47 a: there is no middle for the b", of("b" + SAME.substring(1)).turned(1), NONE);
    due("turned(1) of bb and 46 a: by 1 or by 25", of("bb" + SAME.substring(2)).turned(1), 1);
    due("turned(0) of bb and 46 a", of("bb" + SAME.substring(2)).turned(0), 2);
  }

  private static void nextLeastAndGreatest() {
    MirrorNodes x = of("f");
    due("next(97, 0)", x.next('a', 0), 1);
    due("next(97, 1)", x.next('a', 1), 1);
    due("next(102, 0)", x.next('f', 0), 2);
    due("next(102, 1)", x.next('f', 1), 1);
  }

  private static void nextNoLetter() {
    for (int letter : NO_LETTERS) {
      stays("next(" + letter + ", 0)", NEW, x -> x.next(letter, 0), BAD);
      stays("next(" + letter + ", 1)", SOME, x -> x.next(letter, 1), BAD);
    }
  }

  private static void nextWhat() {
    stays("next(98, 0): bbb", SOME, x -> x.next('b', 0), 3);
    stays("next(98, 1)", SOME, x -> x.next('b', 1), 1);
    for (int what : new int[] {-1, 2, 3, LOW, HIGH}) {
      stays("next(97, " + what + ")", NEW, x -> x.next('a', what), BAD);
      stays("next(97, " + what + ")", SOME, x -> x.next('a', what), BAD);
    }
  }

  private static void nextOnNone() {
    for (int letter = 97; letter <= 102; letter++) {
      int put = letter;
      stays("next(" + letter + ", 0)", NEW, x -> x.next(put, 0), 1);
      stays("next(" + letter + ", 1)", NEW, x -> x.next(put, 1), 1);
    }
  }

  private static void nextOn47() {
    Held almost = new Held("", x -> putAll(x, SAME.substring(1)));
    stays("next(97, 0)", almost, x -> x.next('a', 0), 48);
    stays("next(97, 1)", almost, x -> x.next('a', 1), 1);
    stays("next(98, 0)", almost, x -> x.next('b', 0), 1);
  }

  private static void nextFull() {
    for (int letter = 97; letter <= 102; letter++) {
      int put = letter;
      stays("next(" + letter + ", 0) on 48", ALL, x -> x.next(put, 0), FULL);
      stays("next(" + letter + ", 1) on 48", ALL, x -> x.next(put, 1), FULL);
    }
  }

  private static void nextBadAheadOfFull() {
    stays("next(96, 0) on 48", ALL, x -> x.next(96, 0), BAD);
    stays("next(103, 1) on 48", ALL, x -> x.next(103, 1), BAD);
    stays("next(97, 2) on 48", ALL, x -> x.next('a', 2), BAD);
    stays("next(97, -1) on 48", ALL, x -> x.next('a', -1), BAD);
  }

  private static void nextNode() {
    MirrorNodes x = of("abca");
    int[] more = {1, 0, 1, 1, 1, 1};
    int[] longs = {2, 1, 3, 1, 1, 1};
    for (int letter = 97; letter <= 102; letter++) {
      due("next(" + letter + ", 1)", x.next(letter, 1), more[letter - 97]);
      due("next(" + letter + ", 0)", x.next(letter, 0), longs[letter - 97]);
    }
    MirrorNodes none = of("aabaab");
    due("next(97, 1): aabaa is there", of("aabaadcaaba").next('a', 1), 0);
    due("next(97, 0): aabaa is there", of("aabaadcaaba").next('a', 0), 5);
    due("next(97, 1): abaaba", none.next('a', 1), 1);
  }

  private static void growByNone() {
    stays("grow(0, -1)", NEW, x -> x.grow(0, -1), 0);
    stays("grow(0, -1)", SOME, x -> x.grow(0, -1), 6);
    stays("grow(0, -1)", ALL, x -> x.grow(0, -1), 48);
    stays("grow(0, 0)", NEW, x -> x.grow(0, 0), NONE);
    stays("grow(0, 0)", SOME, x -> x.grow(0, 0), NONE);
  }

  private static void growBy3() {
    stays("grow(3, -1)", SOME, x -> x.grow(3, -1), 9);
    int[] row = {'a', 'a', 'a'};
    for (int k = 0; k < 3; k++) {
      due("grow(3, " + k + ") of bcd..", of("a").grow(3, k), row[k]);
    }
    // ..def: e d c alone brings a node with each of its letters
    MirrorNodes x = of("abcdefabcdef");
    due("grow(3, -1)", x.grow(3, -1), 9);
    due("grow(3, 0)", x.grow(3, 0), 'e');
    due("grow(3, 1)", x.grow(3, 1), 'd');
    due("grow(3, 2)", x.grow(3, 2), 'c');
  }

  private static void growBadN() {
    for (int n : new int[] {-1, -2, 4, 5, 48, LOW, HIGH}) {
      stays("grow(" + n + ", -1)", NEW, x -> x.grow(n, -1), BAD);
      stays("grow(" + n + ", 0)", SOME, x -> x.grow(n, 0), BAD);
      stays("grow(" + n + ", HIGH)", SOME, x -> x.grow(n, HIGH), BAD);
    }
  }

  private static void growBadK() {
    for (int k : new int[] {-2, -3, LOW}) {
      stays("grow(0, " + k + ")", NEW, x -> x.grow(0, k), BAD);
      stays("grow(2, " + k + ")", SOME, x -> x.grow(2, k), BAD);
    }
  }

  private static void growNotSoMany() {
    for (int n = 0; n <= 3; n++) {
      int by = n;
      for (int k : new int[] {n, n + 1, 48, HIGH}) {
        stays("grow(" + n + ", " + k + ")", SOME, x -> x.grow(by, k), NONE);
      }
    }
  }

  private static void growTo48() {
    for (int n = 0; n <= 3; n++) {
      int by = n;
      Held almost = new Held("", x -> putAll(x, SAME.substring(by)));
      stays("grow(" + n + ", -1) on " + (48 - n), almost, x -> x.grow(by, -1), 48);
      if (n > 0) {
        stays("grow(" + n + ", n less 1)", almost, x -> x.grow(by, by - 1), 'a');
      }
    }
  }

  private static void growFull() {
    for (int n = 1; n <= 3; n++) {
      int by = n;
      stays("grow(" + n + ", -1) on 48", ALL, x -> x.grow(by, -1), FULL);
      stays("grow(" + n + ", 0) on 48", ALL, x -> x.grow(by, 0), FULL);
      Held almost = new Held("", x -> putAll(x, SAME.substring(by - 1)));
      stays("grow(" + n + ", -1) on one too many", almost, x -> x.grow(by, -1), FULL);
      stays("grow(" + n + ", 0) on one too many", almost, x -> x.grow(by, 0), FULL);
    }
  }

  private static void growBadAheadOfFull() {
    stays("grow(4, 0) on 48", ALL, x -> x.grow(4, 0), BAD);
    stays("grow(1, -2) on 48", ALL, x -> x.grow(1, -2), BAD);
    stays("grow(-1, 0) on 48", ALL, x -> x.grow(-1, 0), BAD);
    stays("grow(HIGH, -1) on 48", ALL, x -> x.grow(HIGH, -1), BAD);
  }

  private static void growFullAheadOfNone() {
    stays("grow(1, 1) on 48", ALL, x -> x.grow(1, 1), FULL);
    stays("grow(3, HIGH) on 48", ALL, x -> x.grow(3, HIGH), FULL);
    stays("grow(0, 0) on 48", ALL, x -> x.grow(0, 0), NONE);
  }

  private static void growFirst() {
    due("all letters bring one but b: the first is a", of("abca").grow(1, 0), 'a');
    due("a and b bring none, c brings cac", of("aabca").grow(1, 0), 'c');
    due("f alone brings none: nodes stay", of("abcdef").grow(1, -1), 7);
    due("e, ahead of f: efe, ff", of("abcdef").grow(1, 0), 'e');
    due("grow(2, 0) of abcdef: e d", of("abcdef").grow(2, 0), 'e');
    due("grow(2, 1) of abcdef: d", of("abcdef").grow(2, 1), 'd');
  }

  private static void growOnNone() {
    for (int n = 1; n <= 3; n++) {
      int by = n;
      stays("grow(" + n + ", -1)", NEW, x -> x.grow(by, -1), n);
      stays("grow(" + n + ", 0)", NEW, x -> x.grow(by, 0), 'a');
      stays("grow(" + n + ", n less 1)", NEW, x -> x.grow(by, by - 1), 'a');
    }
  }

  private static void growAnew() {
    MirrorNodes x = of("abcdefabcdef");
    due("grow(3, 2)", x.grow(3, 2), 'c');
    due("grow(2, 1)", x.grow(2, 1), 'd');
    due("grow(2, 2)", x.grow(2, 2), NONE);
    due("grow(1, 0)", x.grow(1, 0), 'e');
    due("grow(1, -1)", x.grow(1, -1), 7);
    due("grow(0, -1)", x.grow(0, -1), 6);
    due("grow(0, 0)", x.grow(0, 0), NONE);
    due("grow(3, -1)", x.grow(3, -1), 9);
  }

  private static void dueOdds(String why, Held held, int n, int m, int above, int below) {
    stays(why + ", above", held, x -> x.odds(n, m, 0), above);
    stays(why + ", below", held, x -> x.odds(n, m, 1), below);
  }

  private static void oddsLeast() {
    dueOdds("odds(0, 0)", NEW, 0, 0, 1, 1);
    dueOdds("odds(0, 0)", SOME, 0, 0, 1, 1);
    dueOdds("odds(0, 1)", SOME, 0, 1, 0, 1);
    dueOdds("odds(4, 0)", SOME, 4, 0, 1, 1);
  }

  private static void oddsGreatest() {
    dueOdds("odds(4, 9)", NEW, 4, 9, 0, 1);
    dueOdds("odds(4, 9)", SOME, 4, 9, 0, 1);
    dueOdds("odds(4, 5)", SOME, 4, 5, 0, 1);
    dueOdds("odds(0, 9)", SOME, 0, 9, 0, 1);
    stays("odds(4, 4, 1)", NEW, x -> x.odds(4, 4, 1), 54);
  }

  private static void oddsBadN() {
    for (int n : new int[] {-1, -2, 5, 6, 48, LOW, HIGH}) {
      stays("odds(" + n + ", 0, 0)", NEW, x -> x.odds(n, 0, 0), BAD);
      stays("odds(" + n + ", 9, 1)", SOME, x -> x.odds(n, 9, 1), BAD);
    }
  }

  private static void oddsBadM() {
    for (int m : new int[] {-1, -2, 10, 11, LOW, HIGH}) {
      stays("odds(0, " + m + ", 0)", NEW, x -> x.odds(0, m, 0), BAD);
      stays("odds(4, " + m + ", 1)", SOME, x -> x.odds(4, m, 1), BAD);
    }
  }

  private static void oddsBadWhat() {
    for (int what : new int[] {-1, 2, 3, LOW, HIGH}) {
      stays("odds(0, 0, " + what + ")", NEW, x -> x.odds(0, 0, what), BAD);
      stays("odds(1, 1, " + what + ")", SOME, x -> x.odds(1, 1, what), BAD);
    }
  }

  private static void oddsTo48() {
    for (int n = 0; n <= 4; n++) {
      int by = n;
      Held almost = new Held("", x -> putAll(x, PLAIN.substring(by)));
      stays("odds(" + n + ", 0, 0) on " + (48 - n), almost, x -> x.odds(by, 0, 0), 1);
      stays("odds(" + n + ", 9, 0) on " + (48 - n), almost, x -> x.odds(by, 9, 0), 0);
    }
    // ..ef: e brings efe, f brings ff, no other letter anything
    Held almost = new Held("", x -> putAll(x, PLAIN.substring(0, 42)), x -> putAll(x, "abcde"));
    dueOdds("odds(1, 1) on 47: d brings ded, e ee", almost, 1, 1, 1, 3);
  }

  private static void oddsFull() {
    for (int n = 1; n <= 4; n++) {
      int by = n;
      stays("odds(" + n + ", 0, 0) on 48", ALL, x -> x.odds(by, 0, 0), FULL);
      Held almost = new Held("", x -> putAll(x, PLAIN.substring(by - 1)));
      stays("odds(" + n + ", 0, 0) on one too many", almost, x -> x.odds(by, 0, 0), FULL);
      stays("odds(" + n + ", 9, 1) on one too many", almost, x -> x.odds(by, 9, 1), FULL);
    }
    dueOdds("odds(0, 0) on 48", ALL, 0, 0, 1, 1);
  }

  private static void oddsBadAheadOfFull() {
    stays("odds(5, 0, 0) on 48", ALL, x -> x.odds(5, 0, 0), BAD);
    stays("odds(1, 10, 0) on 48", ALL, x -> x.odds(1, 10, 0), BAD);
    stays("odds(1, -1, 0) on 48", ALL, x -> x.odds(1, -1, 0), BAD);
    stays("odds(1, 0, 2) on 48", ALL, x -> x.odds(1, 0, 2), BAD);
    stays("odds(HIGH, 0, 0) on 48", ALL, x -> x.odds(HIGH, 0, 0), BAD);
  }

  private static void oddsLowestTerms() {
    Held three = new Held("", x -> putAll(x, "abc"));
    dueOdds("odds(1, 1): all but a, 5 of 6", three, 1, 1, 5, 6);
    Held six = new Held("", x -> putAll(x, "abcdef"));
    dueOdds("odds(1, 1): e, f, 2 of 6", six, 1, 1, 1, 3);
    dueOdds("odds(2, 2): ed, ee, ef, fe, ff, 5 of 36", six, 2, 2, 5, 36);
    dueOdds("never", six, 1, 2, 0, 1);
    dueOdds("always", six, 2, 0, 1, 1);
  }

  private static void oddsOrMore() {
    Held six = new Held("", x -> putAll(x, "abcdef"));
    // e or f first (12 rows), or another first and then what brings one: a: a; b: b; c: c; d: d; then fxf
    dueOdds("odds(2, 1): 12, and aa, bb, cc, dd, af, bf, cf, df of 36", six, 2, 1, 5, 9);
    Held none = new Held("");
    dueOdds("odds(2, 2) of no letters: each row brings two", none, 2, 2, 1, 1);
    dueOdds("odds(2, 1) of no letters", none, 2, 1, 1, 1);
    dueOdds("odds(2, 3) of no letters", none, 2, 3, 0, 1);
  }

  private static void walksOfNone() {
    stays("walks(0, 1, 0)", NEW, x -> x.walks(0, 1, 0), 0);
    stays("walks(0, 1, 1)", NEW, x -> x.walks(0, 1, 1), 0);
    stays("walks(0, 999999, 0)", SOME, x -> x.walks(0, 999999, 0), 6);
    stays("walks(0, 999999, 1)", SOME, x -> x.walks(0, 999999, 1), 8);
    stays("walks(0, 1, 1) of 48", ALL, x -> x.walks(0, 1, 1), 48);
  }

  private static void walksOf60() {
    stays("walks(60, 5, 0)", NEW, x -> x.walks(60, 5, 0), 14);
    stays("walks(60, 5, 1)", NEW, x -> x.walks(60, 5, 1), 32);
    due("walks(60, 999999, 1) of 48 like letters", of(SAME).walks(60, 999999, 1), 48);
    due("walks(60, 999999, 0) of 48 like letters", of(SAME).walks(60, 999999, 0), 48);
  }

  private static void walksBadN() {
    for (int n : new int[] {-1, -2, 61, 62, LOW, HIGH}) {
      stays("walks(" + n + ", 1, 0)", NEW, x -> x.walks(n, 1, 0), BAD);
      stays("walks(" + n + ", 1, 1)", ALL, x -> x.walks(n, 1, 1), BAD);
    }
  }

  private static void walksSeeds() {
    // X = 16807: by 64 262, by 4 leaves 2: PUT; by 6 leaves 1: b
    due("walks(1, 1, 1) of b", of("b").walks(1, 1, 1), 2);
    due("walks(1, 1, 0) of bb: bbb", of("bb").walks(1, 1, 0), 3);
    due("walks(1, 1, 0) of bab: babb, bb", of("bab").walks(1, 1, 0), 4);
    due("walks(1, 1, 0) of abca: abcab, nothing more", of("abca").walks(1, 1, 0), 3);
    // X = 16807 times 999999 = 16806983193, less 7 times 2147483647: 1774597664; by 64 27728088, by 4 leaves 0: OFF
    due("walks(1, 999999, 1) of ab", of("ab").walks(1, 999999, 1), 1);
  }

  private static void walksBadSeed() {
    for (int seed : new int[] {0, -1, -2, 1000000, 1000001, LOW, HIGH}) {
      stays("walks(0, " + seed + ", 0)", NEW, x -> x.walks(0, seed, 0), BAD);
      stays("walks(1, " + seed + ", 1)", SOME, x -> x.walks(1, seed, 1), BAD);
    }
  }

  private static void walksBadWhat() {
    for (int what : new int[] {-1, 2, 3, LOW, HIGH}) {
      stays("walks(0, 1, " + what + ")", NEW, x -> x.walks(0, 1, what), BAD);
      stays("walks(60, 999999, " + what + ")", ALL, x -> x.walks(60, 999999, what), BAD);
    }
  }

  private static void walksWrapAround() {
    // 127773 times 16807 is 2147480811, below 2147483647; 127774 times is 2147497618, and leaves 13971
    // 2147480811 by 64 is 33554387, by 4 leaves 3: PUT; by 6 leaves 3: d
    due("walks(1, 127773, 1) of d", of("d").walks(1, 127773, 1), 2);
    due("walks(1, 127773, 0) of ad: dd", of("ad").walks(1, 127773, 0), 3);
    due("walks(1, 127773, 0) of adca: adcad, nothing more", of("adca").walks(1, 127773, 0), 3);
    // 13971 by 64 is 218, by 4 leaves 2: PUT; by 6 leaves 3: d
    due("walks(1, 127774, 0) of ad: dd", of("ad").walks(1, 127774, 0), 3);
    due("walks(1, 127774, 0) of adca: nothing more", of("adca").walks(1, 127774, 0), 3);
    // X = 16807, then 16807 times that, 282475249: by 64 4413675, by 4 leaves 3: PUT; by 6 leaves 1: b
    due("walks(2, 1, 0) of none: bb", new MirrorNodes().walks(2, 1, 0), 2);
    due("walks(2, 1, 1) of none", new MirrorNodes().walks(2, 1, 1), 2);
    // then 16807 times that, less 2210 times 2147483647: 1622650073; by 64 25353907, by 4 leaves 3; by 6 leaves 5: f
    due("walks(3, 1, 0) of none: b, bb, f", new MirrorNodes().walks(3, 1, 0), 3);
    due("walks(3, 1, 0) of af: afbbf", of("af").walks(3, 1, 0), 5);
  }

  private static void walksCut() {
    // 16807 times 19 is 319333: by 64 4989 (cut), by 4 leaves 1: PUT; times 20, 336140: 5252, leaves 0: OFF
    due("walks(1, 19, 1) of a", of("a").walks(1, 19, 1), 2);
    due("walks(1, 20, 1) of a", of("a").walks(1, 20, 1), 0);
    // times 256: by 64 67228, leaves 0: OFF
    due("walks(1, 256, 1) of ab", of("ab").walks(1, 256, 1), 1);
    due("walks(1, 256, 0) of ab", of("ab").walks(1, 256, 0), 1);
  }

  private static void walksOnNone() {
    // 336140 by 6 leaves 2: c
    stays("walks(1, 20, 1): PUT, as nothing can be taken OFF", NEW, x -> x.walks(1, 20, 1), 1);
    stays("walks(1, 20, 0)", NEW, x -> x.walks(1, 20, 0), 1);
    due("walks(1, 20, 1) of one letter: taken OFF", of("c").walks(1, 20, 1), 0);
    due("walks(1, 20, 0) of one letter", of("c").walks(1, 20, 0), 0);
  }

  private static void walksOn48() {
    stays("walks(1, 1, 1): no more can be PUT", ALL, x -> x.walks(1, 1, 1), 47);
    stays("walks(1, 1, 0)", ALL, x -> x.walks(1, 1, 0), 47);
    stays("walks(2, 1, 1): OFF, b is PUT", ALL, x -> x.walks(2, 1, 1), 48);
    stays("walks(1, 999999, 1): taken OFF anyway", ALL, x -> x.walks(1, 999999, 1), 47);
    due("walks(1, 1, 1) of 47", of(SAME.substring(1)).walks(1, 1, 1), 48);
    due("walks(2, 1, 1) of 47", of(SAME.substring(1)).walks(2, 1, 1), 47);
  }

  private static void walksChangesNothing() {
    stays("walks(60, 77, 1)", SOME, x -> x.walks(60, 77, 1), 42);
    stays("walks(60, 77, 0)", SOME, x -> x.walks(60, 77, 0), 23);
    MirrorNodes x = SOME.make();
    x.walks(60, 77, 0);
    due("walks(60, 77, 0) again", x.walks(60, 77, 0), 23);
    due("walks(0, 1, 1) behind it", x.walks(0, 1, 1), SOME_TEXT.length());
  }
}
