/** The edges that the promises 26 to 32 name: the sheets, and what is counted. */
public final class EdgesSheetsTest extends Edges {
  private static final int[] NO_SHEETS = {-1, 4, 5, LOW, HIGH};
  private static final int[] NO_LANES = {-1, 4, 5, LOW, HIGH};

  public static void main(String[] args) {
    sentence(26, "SHEETS 0 .. 3, LANES 0 .. 3", EdgesSheetsTest::sheetEach);
    sentence(26, "BAD: no such SHEET", EdgesSheetsTest::sheetNoSheet);
    sentence(26, "BAD: no such LANE", EdgesSheetsTest::sheetNoLane);
    sentence(26, "of 0 to 48 items", EdgesSheetsTest::sheetLeastAndMost);
    sentence(26, "BAD: also n above 48", EdgesSheetsTest::sheetTooMany);
    sentence(26, "SIZE: n below 0", EdgesSheetsTest::sheetBelow);
    sentence(26, "BAD ahead of SIZE", EdgesSheetsTest::sheetBadAheadOfSize);
    sentence(26, "a new row, of n items 0, where one was", EdgesSheetsTest::sheetAnew);

    sentence(27, "SHEETS 0 .. 3", EdgesSheetsTest::dropEach);
    sentence(27, "BAD: no such SHEET", EdgesSheetsTest::dropNoSheet);
    sentence(27, "NULL: it is nothing", EdgesSheetsTest::dropNothing);
    sentence(27, "no items, 48 items", EdgesSheetsTest::dropLeastAndMost);
    sentence(27, "holds nothing then", EdgesSheetsTest::dropThen);

    sentence(28, "the least and the greatest i", EdgesSheetsTest::itemAtEnds);
    sentence(28, "chars (0 to 65535): its lowest bits", EdgesSheetsTest::itemOfChars);
    sentence(28, "shorts: its lowest bits", EdgesSheetsTest::itemOfShorts);
    sentence(28, "ints: its lowest bits", EdgesSheetsTest::itemOfInts);
    sentence(28, "longs: its lowest bits", EdgesSheetsTest::itemOfLongs);
    sentence(28, "what it is then may be as a refusal is", EdgesSheetsTest::itemLikeRefusals);
    sentence(28, "BAD: no such SHEET", EdgesSheetsTest::itemNoSheet);
    sentence(28, "BAD: no such LANE", EdgesSheetsTest::itemNoLane);
    sentence(28, "NULL", EdgesSheetsTest::itemOfNothing);
    sentence(28, "CAST", EdgesSheetsTest::itemOfAnotherLane);
    sentence(28, "INDEX", EdgesSheetsTest::itemBeyond);
    sentence(28, "BAD, NULL, CAST, INDEX: the first", EdgesSheetsTest::itemOrder);

    sentence(29, "none, and all of 48", EdgesSheetsTest::copyLeastAndMost);
    sentence(29, "from the least i, to the greatest j", EdgesSheetsTest::copyAtEnds);
    sentence(29, "as if all were taken ahead", EdgesSheetsTest::copyOverlapping);
    sentence(29, "of each LANE, whatever the items are", EdgesSheetsTest::copyLanes);
    sentence(29, "BAD: no such SHEET", EdgesSheetsTest::copyNoSheet);
    sentence(29, "NULL (either)", EdgesSheetsTest::copyOfNothing);
    sentence(29, "CAST: of unlike LANES", EdgesSheetsTest::copyUnlikeLanes);
    sentence(29, "INDEX", EdgesSheetsTest::copyBeyond);
    sentence(29, "INDEX (n below 0, too)", EdgesSheetsTest::copyBelow);
    sentence(29, "INDEX: numbers that wrap around", EdgesSheetsTest::copyWrapAround);
    sentence(29, "BAD, NULL, CAST, INDEX: the first", EdgesSheetsTest::copyOrder);

    sentence(30, "the least and the greatest i", EdgesSheetsTest::spellAtEnds);
    sentence(30, "of each LANE", EdgesSheetsTest::spellLanes);
    sentence(30, "48 bytes", EdgesSheetsTest::spell48);
    sentence(30, "BAD: no such NODE", EdgesSheetsTest::spellNoNode);
    sentence(30, "BAD: no such SHEET, no such LANE", EdgesSheetsTest::spellNoSheet);
    sentence(30, "NULL", EdgesSheetsTest::spellToNothing);
    sentence(30, "CAST", EdgesSheetsTest::spellToAnotherLane);
    sentence(30, "INDEX", EdgesSheetsTest::spellBeyond);
    sentence(30, "BAD, NULL, CAST, INDEX: the first", EdgesSheetsTest::spellOrder);

    sentence(31, "n items (0 .. 48): the least", EdgesSheetsTest::readNone);
    sentence(31, "n items (0 .. 48): the greatest", EdgesSheetsTest::read48);
    sentence(31, "BAD: n", EdgesSheetsTest::readBadN);
    sentence(31, "BAD: no such SHEET, no such LANE", EdgesSheetsTest::readNoSheet);
    sentence(31, "NULL", EdgesSheetsTest::readOfNothing);
    sentence(31, "CAST", EdgesSheetsTest::readOfAnotherLane);
    sentence(31, "INDEX", EdgesSheetsTest::readBeyond);
    sentence(31, "NOT: an item that is no byte", EdgesSheetsTest::readNoByte);
    sentence(31, "a byte: the least and the greatest", EdgesSheetsTest::readBytes);
    sentence(31, "FULL: more than 48", EdgesSheetsTest::readFull);
    sentence(31, "BAD, NULL, CAST, INDEX, NOT, FULL: the first", EdgesSheetsTest::readOrder);
    sentence(31, "come behind THE TAPE", EdgesSheetsTest::readBehind);

    sentence(32, "no LETTERS", EdgesSheetsTest::countOfNone);
    sentence(32, "48 LETTERS", EdgesSheetsTest::countOf48);
    sentence(32, "the most of OFTEN and of even ones", EdgesSheetsTest::countMost);
    sentence(32, "whether there are as many NODES as LETTERS (1, 0)", EdgesSheetsTest::countAsMany);
    sentence(32, "how many ACTS can be undone: 0 to 24", EdgesSheetsTest::countActs);
    sentence(32, "bytes of THE TAPE: 0 to 48", EdgesSheetsTest::countTape);
    sentence(32, "BAD: what", EdgesSheetsTest::countWhat);
    end(26, 32);
  }

  private static MirrorNodes withItems(int sheet, int lane, String items) {
    MirrorNodes x = new MirrorNodes();
    x.sheet(sheet, lane, items.length());
    for (int i = 0; i < items.length(); i++) {
      x.item(sheet, lane, i, items.charAt(i));
    }
    return x;
  }

  private static void sheetEach() {
    for (int lane = 0; lane < 4; lane++) {
      MirrorNodes x = new MirrorNodes();
      for (int s = 0; s < 4; s++) {
        due("sheet(" + s + ", " + lane + ", " + (s + 1) + ")", x.sheet(s, lane, s + 1), s + 1);
      }
      for (int s = 0; s < 4; s++) {
        due("read of lane " + lane, x.read(s, lane, 0, 0), 0);
        due("read of another lane", x.read(s, (lane + 1) % 4, 0, 0), CAST);
        due("drop(" + s + ")", x.drop(s), s + 1);
      }
    }
  }

  private static void sheetNoSheet() {
    for (int s : NO_SHEETS) {
      stays("sheet(" + s + ", 0, 1)", NEW, x -> x.sheet(s, 0, 1), BAD);
      stays("sheet(" + s + ", 3, 0)", SOME, x -> x.sheet(s, 3, 0), BAD);
    }
  }

  private static void sheetNoLane() {
    for (int lane : NO_LANES) {
      for (int s = 0; s < 4; s++) {
        int sheet = s;
        stays("sheet(" + s + ", " + lane + ", 1)", SOME, x -> x.sheet(sheet, lane, 1), BAD);
      }
    }
  }

  private static void sheetLeastAndMost() {
    MirrorNodes x = new MirrorNodes();
    due("sheet(0, 0, 0)", x.sheet(0, 0, 0), 0);
    due("item 0 of none", x.item(0, 0, 0, 1), INDEX);
    due("drop(0)", x.drop(0), 0);
    for (int lane = 0; lane < 4; lane++) {
      due("sheet(3, " + lane + ", 48)", x.sheet(3, lane, 48), 48);
      due("item 47", x.item(3, lane, 47, 7), 7);
      due("item 48", x.item(3, lane, 48, 7), INDEX);
    }
    due("drop(3)", x.drop(3), 48);
  }

  private static void sheetTooMany() {
    for (int n : new int[] {49, 50, 1000, HIGH}) {
      stays("sheet(0, 0, " + n + ")", NEW, x -> x.sheet(0, 0, n), BAD);
      stays("sheet(0, 0, " + n + ")", SOME, x -> x.sheet(0, 0, n), BAD);
      stays("sheet(3, 3, " + n + ")", ALL, x -> x.sheet(3, 3, n), BAD);
    }
  }

  private static void sheetBelow() {
    for (int n : new int[] {-1, -2, -48, LOW}) {
      stays("sheet(0, 0, " + n + ")", NEW, x -> x.sheet(0, 0, n), SIZE);
      stays("sheet(1, 3, " + n + ")", SOME, x -> x.sheet(1, 3, n), SIZE);
      stays("sheet(3, 0, " + n + ")", ALL, x -> x.sheet(3, 0, n), SIZE);
    }
  }

  private static void sheetBadAheadOfSize() {
    stays("sheet(4, 0, -1)", SOME, x -> x.sheet(4, 0, -1), BAD);
    stays("sheet(-1, 0, -1)", SOME, x -> x.sheet(-1, 0, -1), BAD);
    stays("sheet(0, 4, -1)", SOME, x -> x.sheet(0, 4, -1), BAD);
    stays("sheet(0, -1, LOW)", SOME, x -> x.sheet(0, -1, LOW), BAD);
  }

  private static void sheetAnew() {
    MirrorNodes x = ALL.make();
    due("sheet(0, 0, 2), shorter", x.sheet(0, 0, 2), 2);
    due("sheet(0, 0, 48), longer again", x.sheet(0, 0, 48), 48);
    dueItems("sheet(0, 0, 48)", x, 0, 0, ".".repeat(48));
    MirrorNodes other = withItems(2, 1, "abc");
    due("sheet(2, 3, 3), of another lane", other.sheet(2, 3, 3), 3);
    due("taken as what it was", other.read(2, 1, 0, 1), CAST);
    dueItems("sheet(2, 3, 3)", other, 2, 3, "...");
    MirrorNodes dropped = withItems(1, 2, "abc");
    dropped.drop(1);
    dropped.sheet(1, 2, 3);
    dueItems("sheet(1, 2, 3) behind drop", dropped, 1, 2, "...");
    MirrorNodes minus = new MirrorNodes();
    minus.sheet(0, 3, 1);
    minus.item(0, 3, 0, -1);
    minus.sheet(0, 3, 1);
    due("0 is a byte, -1 is none", minus.read(0, 3, 0, 1), 1);
  }

  private static void dropEach() {
    MirrorNodes x = new MirrorNodes();
    for (int s = 0; s < 4; s++) {
      x.sheet(s, s, 10 + s);
    }
    for (int s = 0; s < 4; s++) {
      due("drop(" + s + ")", x.drop(s), 10 + s);
      for (int other = 0; other < 4; other++) {
        due("read of " + other, x.read(other, other, 0, 0), other <= s ? NULL : 0);
      }
    }
  }

  private static void dropNoSheet() {
    for (int s : NO_SHEETS) {
      stays("drop(" + s + ")", NEW, x -> x.drop(s), BAD);
      stays("drop(" + s + ")", ALL, x -> x.drop(s), BAD);
    }
  }

  private static void dropNothing() {
    for (int s = 0; s < 4; s++) {
      int sheet = s;
      stays("drop(" + s + ")", NEW, x -> x.drop(sheet), NULL);
    }
    stays("drop(2)", SOME, x -> x.drop(2), NULL);
    Held dropped = new Held("", x -> x.sheet(1, 1, 5), x -> x.drop(1));
    stays("drop(1) again", dropped, x -> x.drop(1), NULL);
  }

  private static void dropLeastAndMost() {
    due("drop(3) of no items", SOME.make().drop(3), 0);
    for (int s = 0; s < 4; s++) {
      due("drop(" + s + ") of 48", ALL.make().drop(s), 48);
    }
  }

  private static void dropThen() {
    MirrorNodes x = SOME.make();
    x.drop(0);
    due("item", x.item(0, 0, 0, 1), NULL);
    due("copy from", x.copy(0, 0, 1, 0, 0), NULL);
    due("copy to", x.copy(1, 0, 0, 0, 0), NULL);
    due("spell", x.spell(0, 0, 0, 0), NULL);
    due("read", x.read(0, 0, 0, 0), NULL);
    due("drop", x.drop(0), NULL);
    due("another sheet stays", x.drop(1), 5);
    due("sheet again", x.sheet(0, 3, 4), 4);
  }

  private static void itemAtEnds() {
    for (int lane = 0; lane < 4; lane++) {
      MirrorNodes x = withItems(lane, lane, "abcde");
      due("item 0", x.item(lane, lane, 0, 'f'), 'f');
      due("item 4", x.item(lane, lane, 4, 'f'), 'f');
      dueItems("items of lane " + lane, x, lane, lane, "fbcdf");
    }
    MirrorNodes all = ALL.make();
    due("item 47 of 48", all.item(3, 3, 47, 'f'), 'f');
    dueItems("item 47 of 48", all, 3, 3, RICH.substring(0, 47) + "f");
  }

  private static void dueLowest(int lane, long... pairs) {
    MirrorNodes x = new MirrorNodes();
    x.sheet(0, lane, 1);
    for (int i = 0; i < pairs.length; i += 2) {
      due("item of lane " + lane + ", " + pairs[i], x.item(0, lane, 0, pairs[i]), pairs[i + 1]);
    }
  }

  private static void itemOfChars() {
    dueLowest(0, 0, 0, 65535, 65535, 65536, 0, 65537, 1, -1, 65535, -65535, 1, -65536, 0, -65537, 65535, 32768, 32768,
        HIGH, 65535, LOW, 0, Long.MAX_VALUE, 65535, Long.MIN_VALUE, 0, 1L << 32, 0, (1L << 48) + 97, 97);
    MirrorNodes x = new MirrorNodes();
    x.put('b');
    x.sheet(0, 0, 1);
    due("item(0, 0, 0, 65536 + 98)", x.item(0, 0, 0, 65536 + 98), 98);
    due("read", x.read(0, 0, 0, 1), 1);
    due("it is that", x.find(), 0);
  }

  private static void itemOfShorts() {
    dueLowest(1, 0, 0, 32767, 32767, 32768, -32768, 32769, -32767, -32768, -32768, -32769, 32767, 65535, -1, 65536, 0,
        -1, -1, HIGH, -1, LOW, 0, Long.MAX_VALUE, -1, Long.MIN_VALUE, 0, (1L << 40) + 97, 97);
    MirrorNodes x = new MirrorNodes();
    x.sheet(0, 1, 1);
    x.item(0, 1, 0, 65535);
    due("read of -1", x.read(0, 1, 0, 1), NOT);
    x.item(0, 1, 0, 65536);
    due("read of 0", x.read(0, 1, 0, 1), 1);
  }

  private static void itemOfInts() {
    dueLowest(2, 0, 0, HIGH, HIGH, HIGH + 1L, LOW, LOW, LOW, LOW - 1L, HIGH, 4294967295L, -1, 4294967296L, 0, -1, -1,
        65536, 65536, 32768, 32768, Long.MAX_VALUE, -1, Long.MIN_VALUE, 0, (1L << 32) + 97, 97);
    MirrorNodes x = new MirrorNodes();
    x.sheet(0, 2, 1);
    x.item(0, 2, 0, 4294967295L);
    due("read of -1", x.read(0, 2, 0, 1), NOT);
    x.item(0, 2, 0, 4294967296L + 255);
    due("read of 255", x.read(0, 2, 0, 1), 1);
  }

  private static void itemOfLongs() {
    dueLowest(3, 0, 0, Long.MAX_VALUE, Long.MAX_VALUE, Long.MIN_VALUE, Long.MIN_VALUE, -1, -1, 4294967296L, 4294967296L,
        HIGH + 1L, HIGH + 1L, LOW - 1L, LOW - 1L, 65536, 65536, 32768, 32768);
    MirrorNodes x = new MirrorNodes();
    x.sheet(0, 3, 1);
    x.item(0, 3, 0, (1L << 32) + 97);
    due("read of more than an int", x.read(0, 3, 0, 1), NOT);
  }

  private static void itemLikeRefusals() {
    for (long v : new long[] {BAD, NOT, FULL, NONE, NULL, CAST, INDEX, SIZE}) {
      for (int lane = 1; lane < 4; lane++) {
        MirrorNodes x = withItems(0, lane, "a");
        due("item of lane " + lane + ", " + v, x.item(0, lane, 0, v), v);
        due("it is that, no byte", x.read(0, lane, 0, 1), NOT);
      }
    }
  }

  private static void itemNoSheet() {
    for (int s : NO_SHEETS) {
      stays("item(" + s + ", 0, 0, 1)", NEW, x -> x.item(s, 0, 0, 1), BAD);
      stays("item(" + s + ", 3, 0, 1)", ALL, x -> x.item(s, 3, 0, 1), BAD);
    }
  }

  private static void itemNoLane() {
    for (int lane : NO_LANES) {
      stays("item(0, " + lane + ", 0, 1)", SOME, x -> x.item(0, lane, 0, 1), BAD);
      stays("item(3, " + lane + ", 0, 1)", ALL, x -> x.item(3, lane, 0, 1), BAD);
    }
  }

  private static void itemOfNothing() {
    for (int s = 0; s < 4; s++) {
      int sheet = s;
      stays("item(" + s + ", 0, 0, 97)", NEW, x -> x.item(sheet, 0, 0, 'a'), NULL);
    }
    stays("item(2, 0, 0, 97)", SOME, x -> x.item(2, 0, 0, 'a'), NULL);
  }

  private static void itemOfAnotherLane() {
    for (int s = 0; s < 4; s++) {
      for (int lane = 0; lane < 4; lane++) {
        int sheet = s;
        int as = lane;
        if (lane != s) {
          stays("item(" + s + ", " + lane + ", 0, 102)", ALL, x -> x.item(sheet, as, 0, 'f'), CAST);
        }
      }
    }
  }

  private static void itemBeyond() {
    for (int i : new int[] {-1, -2, 3, 4, 47, 48, LOW, HIGH}) {
      stays("item(0, 0, " + i + ", 102) of 3", SOME, x -> x.item(0, 0, i, 'f'), INDEX);
    }
    for (int i : new int[] {-1, 0, 1}) {
      stays("item(3, 1, " + i + ", 102) of no items", SOME, x -> x.item(3, 1, i, 'f'), INDEX);
    }
    for (int i : new int[] {-1, 48, 49, LOW, HIGH}) {
      stays("item(2, 2, " + i + ", 102) of 48", ALL, x -> x.item(2, 2, i, 'f'), INDEX);
    }
  }

  private static void itemOrder() {
    stays("item(2, 4, 9, 1): BAD ahead of NULL", SOME, x -> x.item(2, 4, 9, 1), BAD);
    stays("item(0, 4, 9, 1): BAD ahead of INDEX", SOME, x -> x.item(0, 4, 9, 1), BAD);
    stays("item(2, 1, 9, 1): NULL ahead of CAST, INDEX", SOME, x -> x.item(2, 1, 9, 1), NULL);
    stays("item(0, 1, 9, 1): CAST ahead of INDEX", SOME, x -> x.item(0, 1, 9, 1), CAST);
    stays("item(3, 0, 0, 1): CAST of no items", SOME, x -> x.item(3, 0, 0, 1), CAST);
  }

  private static void copyLeastAndMost() {
    stays("copy(0, 0, 0, 0, 0)", SOME, x -> x.copy(0, 0, 0, 0, 0), 0);
    stays("copy(0, 3, 0, 3, 0), behind the last", SOME, x -> x.copy(0, 3, 0, 3, 0), 0);
    stays("copy(3, 0, 3, 0, 0) of no items", SOME, x -> x.copy(3, 0, 3, 0, 0), 0);
    stays("copy(0, 0, 0, 0, 48) onto itself", ALL, x -> x.copy(0, 0, 0, 0, 48), 48);
    stays("copy(3, 48, 3, 48, 0)", ALL, x -> x.copy(3, 48, 3, 48, 0), 0);
    MirrorNodes x = ALL.make();
    x.sheet(0, 3, 48);
    due("copy(3, 0, 0, 0, 48)", x.copy(3, 0, 0, 0, 48), 48);
    dueItems("copy of 48", x, 0, 3, RICH);
  }

  private static void copyAtEnds() {
    MirrorNodes x = withItems(0, 2, "abcde");
    x.sheet(1, 2, 3);
    due("copy(0, 0, 1, 2, 1)", x.copy(0, 0, 1, 2, 1), 1);
    dueItems("the first to the last", x, 1, 2, "..a");
    due("copy(0, 4, 1, 0, 1)", x.copy(0, 4, 1, 0, 1), 1);
    dueItems("the last to the first", x, 1, 2, "e.a");
    due("copy(0, 2, 1, 0, 3), all to the end of both", x.copy(0, 2, 1, 0, 3), 3);
    dueItems("all of it", x, 1, 2, "cde");
    dueItems("the row it is from stays", x, 0, 2, "abcde");
  }

  private static void copyOverlapping() {
    MirrorNodes up = withItems(3, 1, "abcdef");
    due("copy(3, 0, 3, 1, 5)", up.copy(3, 0, 3, 1, 5), 5);
    dueItems("up by one", up, 3, 1, "aabcde");
    MirrorNodes down = withItems(3, 1, "abcdef");
    due("copy(3, 1, 3, 0, 5)", down.copy(3, 1, 3, 0, 5), 5);
    dueItems("down by one", down, 3, 1, "bcdeff");
    MirrorNodes two = withItems(3, 1, "abcdef");
    due("copy(3, 0, 3, 2, 4)", two.copy(3, 0, 3, 2, 4), 4);
    dueItems("up by two", two, 3, 1, "ababcd");
    MirrorNodes most = ALL.make();
    due("copy(2, 0, 2, 1, 47)", most.copy(2, 0, 2, 1, 47), 47);
    dueItems("up by one of 48", most, 2, 2, RICH.charAt(0) + RICH.substring(0, 47));
  }

  private static void copyLanes() {
    for (int lane = 0; lane < 4; lane++) {
      MirrorNodes x = withItems(0, lane, "abc");
      x.item(0, lane, 1, 256);
      x.sheet(3, lane, 3);
      due("copy(0, 0, 3, 0, 3) of lane " + lane, x.copy(0, 0, 3, 0, 3), 3);
      dueItems("lane " + lane, x, 3, lane, "a|c");
    }
    MirrorNodes far = withItems(0, 3, "aa");
    far.item(0, 3, 0, (1L << 32) + 97);
    far.sheet(1, 3, 1);
    far.copy(0, 0, 1, 0, 1);
    due("a long stays one", far.read(1, 3, 0, 1), NOT);
  }

  private static void copyNoSheet() {
    for (int s : NO_SHEETS) {
      stays("copy(" + s + ", 0, 0, 0, 1)", ALL, x -> x.copy(s, 0, 0, 0, 1), BAD);
      stays("copy(0, 0, " + s + ", 0, 1)", ALL, x -> x.copy(0, 0, s, 0, 1), BAD);
      stays("copy(" + s + ", 0, " + s + ", 0, 0)", NEW, x -> x.copy(s, 0, s, 0, 0), BAD);
    }
  }

  private static void copyOfNothing() {
    stays("copy(2, 0, 0, 0, 1), from nothing", SOME, x -> x.copy(2, 0, 0, 0, 1), NULL);
    stays("copy(0, 0, 2, 0, 1), to nothing", SOME, x -> x.copy(0, 0, 2, 0, 1), NULL);
    stays("copy(2, 0, 2, 0, 0), nothing to itself", SOME, x -> x.copy(2, 0, 2, 0, 0), NULL);
    stays("copy(0, 0, 3, 0, 0)", NEW, x -> x.copy(0, 0, 3, 0, 0), NULL);
  }

  private static void copyUnlikeLanes() {
    for (int from = 0; from < 4; from++) {
      for (int to = 0; to < 4; to++) {
        int a = from;
        int b = to;
        if (from != to) {
          stays("copy(" + from + ", 0, " + to + ", 1, 1)", ALL, x -> x.copy(a, 0, b, 1, 1), CAST);
          stays("copy(" + from + ", 0, " + to + ", 0, 0)", ALL, x -> x.copy(a, 0, b, 0, 0), CAST);
        }
      }
    }
  }

  private static Held twoSheets() {
    return new Held("", x -> x.sheet(0, 1, 5), x -> x.sheet(1, 1, 3), x -> x.item(0, 1, 0, 'a'),
        x -> x.item(0, 1, 1, 'b'), x -> x.item(0, 1, 4, 'c'), x -> x.item(1, 1, 0, 'd'), x -> x.item(1, 1, 2, 'e'));
  }

  private static void copyBeyond() {
    int[][] beyond = {{0, 6, 1, 0, 0}, {0, 0, 1, 4, 0}, {0, 5, 1, 0, 1}, {0, 0, 1, 3, 1}, {0, -1, 1, 0, 1},
      {0, 0, 1, -1, 1}, {0, -1, 1, 0, 0}, {0, 0, 1, -1, 0}, {0, 3, 1, 0, 3}, {0, 0, 1, 1, 3}, {0, 0, 1, 0, 4},
      {1, 0, 0, 0, 4}, {0, 0, 0, 1, 5}, {0, 1, 0, 0, 5}, {0, 0, 0, 0, 6}};
    Held two = twoSheets();
    for (int[] b : beyond) {
      stays("copy(" + b[0] + ", " + b[1] + ", " + b[2] + ", " + b[3] + ", " + b[4] + ")", two,
          x -> x.copy(b[0], b[1], b[2], b[3], b[4]), INDEX);
    }
    stays("copy(0, 0, 0, 0, 49) of 48", ALL, x -> x.copy(0, 0, 0, 0, 49), INDEX);
    stays("copy(0, 1, 0, 0, 48) of 48", ALL, x -> x.copy(0, 1, 0, 0, 48), INDEX);
    stays("copy(0, 0, 0, 1, 48) of 48", ALL, x -> x.copy(0, 0, 0, 1, 48), INDEX);
    stays("copy(3, 0, 3, 0, 1) of no items", SOME, x -> x.copy(3, 0, 3, 0, 1), INDEX);
  }

  private static void copyBelow() {
    Held two = twoSheets();
    for (int n : new int[] {-1, -2, LOW}) {
      stays("copy(0, 0, 1, 0, " + n + ")", two, x -> x.copy(0, 0, 1, 0, n), INDEX);
      stays("copy(0, 5, 1, 3, " + n + ")", two, x -> x.copy(0, 5, 1, 3, n), INDEX);
      stays("copy(0, 48, 0, 48, " + n + ")", ALL, x -> x.copy(0, 48, 0, 48, n), INDEX);
      stays("copy(0, 6, 1, 4, " + n + "), ended within", two, x -> x.copy(0, 6, 1, 4, n), INDEX);
    }
  }

  private static void copyWrapAround() {
    Held two = twoSheets();
    int[][] wraps = {{1, 1, HIGH}, {HIGH, 0, 1}, {0, HIGH, 1}, {HIGH, HIGH, HIGH}, {HIGH, HIGH, 1}, {2, 0, HIGH - 1},
      {LOW, LOW, LOW}, {LOW, 0, HIGH}, {0, LOW, HIGH}, {LOW, 0, 0}, {HIGH, 0, 0}, {0, HIGH, 0}, {HIGH, 0, LOW}};
    for (int[] w : wraps) {
      stays("copy(0, " + w[0] + ", 1, " + w[1] + ", " + w[2] + ")", two, x -> x.copy(0, w[0], 1, w[1], w[2]), INDEX);
    }
  }

  private static void copyOrder() {
    stays("copy(2, 9, 4, 9, -1): BAD ahead of NULL", SOME, x -> x.copy(2, 9, 4, 9, -1), BAD);
    stays("copy(4, 9, 2, 9, -1): BAD ahead of NULL", SOME, x -> x.copy(4, 9, 2, 9, -1), BAD);
    stays("copy(2, 9, 0, 9, -1): NULL ahead of INDEX", SOME, x -> x.copy(2, 9, 0, 9, -1), NULL);
    stays("copy(1, 9, 2, 9, -1): NULL ahead of CAST, INDEX", SOME, x -> x.copy(1, 9, 2, 9, -1), NULL);
    stays("copy(0, 9, 1, 9, -1): CAST ahead of INDEX", SOME, x -> x.copy(0, 9, 1, 9, -1), CAST);
    stays("copy(3, 0, 1, 0, 1): CAST, though it has no items", SOME, x -> x.copy(3, 0, 1, 0, 1), CAST);
  }

  private static void spellAtEnds() {
    MirrorNodes x = of("cabba");
    due("abba", x.node(4, 0), 4);
    x.sheet(0, 0, 6);
    due("spell(4, 0, 0, 0)", x.spell(4, 0, 0, 0), 4);
    due("spell(0, 0, 0, 5), one at the end", x.spell(0, 0, 0, 5), 1);
    x.keep(0);
    dueItems("spell", x, 0, 0, "abba.c");
    x.back(0);
    due("spell(4, 0, 0, 2), four up to the end", x.spell(4, 0, 0, 2), 4);
    dueItems("spell", x, 0, 0, "ababba");
  }

  private static void spellLanes() {
    for (int lane = 0; lane < 4; lane++) {
      MirrorNodes x = of("fedef");
      x.sheet(3, lane, 7);
      due("LONG of the last node", x.node(4, 0), 5);
      due("spell(4, 3, " + lane + ", 1)", x.spell(4, 3, lane, 1), 5);
      dueItems("lane " + lane, x, 3, lane, ".fedef.");
    }
  }

  private static void spell48() {
    MirrorNodes x = of(RICH);
    x.sheet(0, 3, 48);
    due("spell(47, 0, 3, 0)", x.spell(47, 0, 3, 0), 48);
    due("spell(0, 0, 3, 47)", x.spell(0, 0, 3, 47), 1);
    dueItems("48 bytes", x, 0, 3, RICH);
    stays("spell(47, 0, 0, 1)", ALL, y -> y.spell(47, 0, 0, 1), INDEX);
    MirrorNodes less = of(RICH);
    less.sheet(0, 3, 47);
    due("spell(47, 0, 3, 0) to 47", less.spell(47, 0, 3, 0), INDEX);
    dueItems("none of them came", less, 0, 3, ".".repeat(47));
  }

  private static void spellNoNode() {
    for (int node : new int[] {-1, 6, 7, 48, 49, LOW, HIGH}) {
      stays("spell(" + node + ", 0, 0, 0)", SOME, x -> x.spell(node, 0, 0, 0), BAD);
    }
    stays("spell(48, 0, 0, 0)", ALL, x -> x.spell(48, 0, 0, 0), BAD);
    stays("spell(49, 0, 0, 0)", ALL, x -> x.spell(49, 0, 0, 0), BAD);
    Held none = new Held("", x -> x.sheet(0, 0, 5));
    stays("spell(0, 0, 0, 0) of no letters", none, x -> x.spell(0, 0, 0, 0), BAD);
  }

  private static void spellNoSheet() {
    for (int s : NO_SHEETS) {
      stays("spell(0, " + s + ", 0, 0)", ALL, x -> x.spell(0, s, 0, 0), BAD);
    }
    for (int lane : NO_LANES) {
      stays("spell(0, 0, " + lane + ", 0)", ALL, x -> x.spell(0, 0, lane, 0), BAD);
    }
  }

  private static void spellToNothing() {
    stays("spell(0, 2, 0, 0)", SOME, x -> x.spell(0, 2, 0, 0), NULL);
    due("spell(0, 0, 0, 0) of a new object with a letter", of("a").spell(0, 0, 0, 0), NULL);
  }

  private static void spellToAnotherLane() {
    for (int s = 0; s < 4; s++) {
      for (int lane = 0; lane < 4; lane++) {
        int sheet = s;
        int as = lane;
        if (lane != s) {
          stays("spell(1, " + s + ", " + lane + ", 0)", ALL, x -> x.spell(1, sheet, as, 0), CAST);
        }
      }
    }
  }

  private static void spellBeyond() {
    // bacab to five items, aca to three
    for (int i : new int[] {-1, 1, 2, 5, 48, LOW, HIGH}) {
      stays("spell(4, 1, 3, " + i + ")", SOME, x -> x.spell(4, 1, 3, i), INDEX);
    }
    stays("spell(4, 0, 0, 0): five to three", SOME, x -> x.spell(4, 0, 0, 0), INDEX);
    stays("spell(3, 0, 0, 1): three to two", SOME, x -> x.spell(3, 0, 0, 1), INDEX);
    stays("spell(0, 0, 0, 3): one behind the last", SOME, x -> x.spell(0, 0, 0, 3), INDEX);
    stays("spell(0, 3, 1, 0) of no items", SOME, x -> x.spell(0, 3, 1, 0), INDEX);
    due("spell(4, 1, 3, 0): five to five", SOME.make().spell(4, 1, 3, 0), 5);
    due("spell(3, 0, 0, 0): three to three", SOME.make().spell(3, 0, 0, 0), 3);
  }

  private static void spellOrder() {
    stays("spell(6, 2, 1, 9): BAD (a NODE) ahead of NULL", SOME, x -> x.spell(6, 2, 1, 9), BAD);
    stays("spell(0, 2, 4, 9): BAD (a LANE) ahead of NULL", SOME, x -> x.spell(0, 2, 4, 9), BAD);
    stays("spell(6, 0, 1, 9): BAD ahead of CAST", SOME, x -> x.spell(6, 0, 1, 9), BAD);
    stays("spell(6, 0, 0, 9): BAD ahead of INDEX", SOME, x -> x.spell(6, 0, 0, 9), BAD);
    stays("spell(0, 2, 1, 9): NULL ahead of CAST, INDEX", SOME, x -> x.spell(0, 2, 1, 9), NULL);
    stays("spell(0, 0, 1, 9): CAST ahead of INDEX", SOME, x -> x.spell(0, 0, 1, 9), CAST);
  }

  private static void readNone() {
    stays("read(0, 0, 0, 0)", SOME, x -> x.read(0, 0, 0, 0), 5);
    stays("read(0, 0, 3, 0), behind the last", SOME, x -> x.read(0, 0, 3, 0), 5);
    stays("read(3, 1, 0, 0) of no items", SOME, x -> x.read(3, 1, 0, 0), 5);
    stays("read(0, 0, 0, 0) behind 48 bytes", ALL, x -> x.read(0, 0, 0, 0), 48);
    stays("read(3, 3, 48, 0) behind 48 bytes", ALL, x -> x.read(3, 3, 48, 0), 48);
    Held empty = new Held("", x -> x.sheet(2, 2, 1));
    stays("read(2, 2, 1, 0) to an empty tape", empty, x -> x.read(2, 2, 1, 0), 0);
    stays("read(0, 0, 2, 0): the item that is no byte is not among them", SOME, x -> x.read(0, 0, 2, 0), 5);
  }

  private static void read48() {
    for (int lane = 0; lane < 4; lane++) {
      MirrorNodes x = ALL.make();
      x.clear();
      due("read(" + lane + ", " + lane + ", 0, 48)", x.read(lane, lane, 0, 48), 48);
      due("they are these", x.find(), 47);
    }
  }

  private static void readBadN() {
    for (int n : new int[] {-1, -2, 49, 50, LOW, HIGH}) {
      stays("read(0, 0, 0, " + n + ")", SOME, x -> x.read(0, 0, 0, n), BAD);
      stays("read(0, 0, 0, " + n + ")", ALL, x -> x.read(0, 0, 0, n), BAD);
    }
  }

  private static void readNoSheet() {
    for (int s : NO_SHEETS) {
      stays("read(" + s + ", 0, 0, 0)", SOME, x -> x.read(s, 0, 0, 0), BAD);
    }
    for (int lane : NO_LANES) {
      stays("read(0, " + lane + ", 0, 0)", SOME, x -> x.read(0, lane, 0, 0), BAD);
    }
  }

  private static void readOfNothing() {
    for (int s = 0; s < 4; s++) {
      int sheet = s;
      stays("read(" + s + ", 0, 0, 0)", NEW, x -> x.read(sheet, 0, 0, 0), NULL);
    }
    stays("read(2, 3, 0, 1)", SOME, x -> x.read(2, 3, 0, 1), NULL);
  }

  private static void readOfAnotherLane() {
    for (int s = 0; s < 4; s++) {
      for (int lane = 0; lane < 4; lane++) {
        int sheet = s;
        int as = lane;
        if (lane != s) {
          stays("read(" + s + ", " + lane + ", 0, 0)", ALL, x -> x.read(sheet, as, 0, 0), CAST);
        }
      }
    }
  }

  private static void readBeyond() {
    int[][] beyond = {{-1, 0}, {-1, 1}, {0, 4}, {1, 3}, {2, 2}, {3, 1}, {4, 0}, {4, 1}, {0, 48}, {HIGH, 0}, {HIGH, 1},
      {HIGH, 48}, {LOW, 0}, {LOW, 48}};
    for (int[] b : beyond) {
      stays("read(0, 0, " + b[0] + ", " + b[1] + ")", SOME, x -> x.read(0, 0, b[0], b[1]), INDEX);
    }
    stays("read(3, 1, 0, 1) of no items", SOME, x -> x.read(3, 1, 0, 1), INDEX);
    stays("read(3, 1, 1, 0) of no items", SOME, x -> x.read(3, 1, 1, 0), INDEX);
    stays("read(0, 0, 1, 48) of 48", ALL, x -> x.read(0, 0, 1, 48), INDEX);
    stays("read(0, 0, 49, 0) of 48", ALL, x -> x.read(0, 0, 49, 0), INDEX);
  }

  private static void readNoByte() {
    stays("read(0, 0, 2, 1) of 300", SOME, x -> x.read(0, 0, 2, 1), NOT);
    stays("read(0, 0, 0, 3): the last is none", SOME, x -> x.read(0, 0, 0, 3), NOT);
    stays("read(1, 3, 1, 2): the first is none", SOME, x -> x.read(1, 3, 1, 2), NOT);
    stays("read(1, 3, 3, 1) of 256", SOME, x -> x.read(1, 3, 3, 1), NOT);
    long[] none = {-1, 256, 257, 97 + 256, 97 - 256, 97 + (1L << 32), LOW, HIGH, Long.MIN_VALUE, Long.MAX_VALUE};
    for (long v : none) {
      Held one = new Held("a", x -> x.put('a'), x -> x.feed('a'), x -> x.sheet(0, 3, 1), x -> x.item(0, 3, 0, v));
      stays("read of " + v, one, x -> x.read(0, 3, 0, 1), NOT);
    }
  }

  private static void readBytes() {
    for (int lane = 0; lane < 4; lane++) {
      MirrorNodes x = new MirrorNodes();
      x.sheet(0, lane, 4);
      x.item(0, lane, 1, 255);
      x.item(0, lane, 2, 1);
      x.item(0, lane, 3, 254);
      due("read of 0, 255, 1, 254", x.read(0, lane, 0, 4), 4);
      due("read of 0", x.read(0, lane, 0, 1), 5);
      due("read of 255", x.read(0, lane, 1, 1), 6);
      x.item(0, lane, 1, 256);
      due("read of 256", x.read(0, lane, 1, 1), NOT);
      x.item(0, lane, 1, -1);
      due("read of -1", x.read(0, lane, 1, 1), NOT);
    }
  }

  private static void readFull() {
    stays("read(0, 0, 0, 1) behind 48", ALL, x -> x.read(0, 0, 0, 1), FULL);
    stays("read(0, 0, 0, 48) behind 48", ALL, x -> x.read(0, 0, 0, 48), FULL);
    Held one = new Held("a", x -> putAll(x, SAME), x -> x.feed('a'), x -> x.sheet(0, 0, 48), x -> x.spell(47, 0, 0, 0));
    stays("read(0, 0, 0, 48) behind 1", one, x -> x.read(0, 0, 0, 48), FULL);
    MirrorNodes x = one.make();
    due("read(0, 0, 0, 47) behind 1", x.read(0, 0, 0, 47), 48);
    due("read(0, 0, 0, 1) behind them", x.read(0, 0, 0, 1), FULL);
    Held most = new Held(SAME.substring(1), y -> putAll(y, SAME), y -> feedAll(y, SAME.substring(1)),
        y -> y.sheet(0, 0, 2));
    stays("read(0, 0, 0, 2) behind 47", most, y -> y.read(0, 0, 0, 2), FULL);
    due("read(0, 0, 0, 1) behind 47", most.make().read(0, 0, 0, 1), 48);
  }

  private static void readOrder() {
    stays("read(2, 4, 9, 1): BAD (a LANE) ahead of NULL", SOME, x -> x.read(2, 4, 9, 1), BAD);
    stays("read(2, 1, 9, 49): BAD (n) ahead of NULL", SOME, x -> x.read(2, 1, 9, 49), BAD);
    stays("read(0, 1, 9, -1): BAD (n) ahead of CAST", SOME, x -> x.read(0, 1, 9, -1), BAD);
    stays("read(2, 1, 9, 1): NULL ahead of CAST, INDEX", SOME, x -> x.read(2, 1, 9, 1), NULL);
    stays("read(0, 1, 9, 1): CAST ahead of INDEX", SOME, x -> x.read(0, 1, 9, 1), CAST);
    stays("read(0, 1, 2, 1): CAST ahead of NOT", SOME, x -> x.read(0, 1, 2, 1), CAST);
    stays("read(0, 0, 2, 2): INDEX ahead of NOT", SOME, x -> x.read(0, 0, 2, 2), INDEX);
    stays("read(0, 0, 1, 48): INDEX ahead of FULL", ALL, x -> x.read(0, 0, 1, 48), INDEX);
    Held full = new Held(SAME, x -> feedAll(x, SAME), x -> x.sheet(0, 3, 3), x -> x.item(0, 3, 2, 256));
    stays("read(0, 3, 0, 3) behind 48: NOT ahead of FULL", full, x -> x.read(0, 3, 0, 3), NOT);
    stays("read(0, 3, 0, 2) behind 48: FULL", full, x -> x.read(0, 3, 0, 2), FULL);
  }

  private static void readBehind() {
    MirrorNodes x = withItems(0, 1, "cab");
    putAll(x, "abcab");
    feedAll(x, "ab");
    due("read(0, 1, 0, 3)", x.read(0, 1, 0, 3), 5);
    due("abcab", x.times(), 1);
    x.clear();
    due("read(0, 1, 1, 2)", x.read(0, 1, 1, 2), 2);
    due("ab", x.times(), 2);
    due("the sheet stays", x.drop(0), 3);
  }

  private static void countOfNone() {
    int[] due = {0, 0, 0, 0, 0, 1, 0, 0};
    for (int what = 0; what < 8; what++) {
      int asked = what;
      stays("count(" + what + ")", NEW, x -> x.count(asked), due[what]);
    }
    MirrorNodes x = of("aa");
    x.pop();
    x.pop();
    for (int what = 0; what < 6; what++) {
      due("count(" + what + "), all taken off", x.count(what), due[what]);
    }
  }

  private static void countOf48() {
    int[] due = {48, 48, 132, 24, 48, 1, 24, 48};
    for (int what = 0; what < 8; what++) {
      int asked = what;
      stays("count(" + what + ")", ALL, x -> x.count(asked), due[what]);
    }
    int[] plain = {48, 6, 48, 0, 1, 0, 24, 0};
    MirrorNodes x = of(PLAIN);
    for (int what = 0; what < 8; what++) {
      due("count(" + what + ") of no two alike", x.count(what), plain[what]);
    }
  }

  private static void countMost() {
    MirrorNodes x = of(SAME);
    due("count(2) of 48 like letters", x.count(2), 1176);
    due("count(3)", x.count(3), 24);
    due("count(1)", x.count(1), 48);
    due("count(3) of one letter", of("a").count(3), 0);
    due("count(3) of aa", of("aa").count(3), 1);
    due("count(2) of one letter", of("a").count(2), 1);
  }

  private static void countAsMany() {
    MirrorNodes x = new MirrorNodes();
    due("count(5) of no letters", x.count(5), 1);
    putAll(x, "abc");
    due("count(5) of abc", x.count(5), 1);
    x.put('a');
    due("count(5) of abca", x.count(5), 0);
    x.pop();
    due("count(5) of abc again", x.count(5), 1);
    due("count(5) of 48 like letters", of(SAME).count(5), 1);
  }

  private static void countActs() {
    MirrorNodes x = new MirrorNodes();
    for (int i = 1; i <= 26; i++) {
      x.put('a');
      due("count(6) behind " + i + " acts", x.count(6), Math.min(i, 24));
    }
    x.undo();
    due("count(6) behind undo()", x.count(6), 23);
    x.pop();
    due("count(6) behind pop()", x.count(6), 24);
    x.change(0, 'b');
    due("count(6) behind change", x.count(6), 24);
    x.keep(0);
    x.back(0);
    due("count(6) behind back", x.count(6), 0);
  }

  private static void countTape() {
    MirrorNodes x = new MirrorNodes();
    for (int i = 1; i <= 50; i++) {
      x.feed(i);
      due("count(7) behind " + i + " bytes", x.count(7), Math.min(i, 48));
    }
    x.clear();
    due("count(7) behind clear()", x.count(7), 0);
  }

  private static void countWhat() {
    for (int what : new int[] {-1, -2, 8, 9, LOW, HIGH}) {
      stays("count(" + what + ")", NEW, x -> x.count(what), BAD);
      stays("count(" + what + ")", SOME, x -> x.count(what), BAD);
    }
    stays("count(0)", SOME, x -> x.count(0), 8);
    stays("count(7)", SOME, x -> x.count(7), 5);
  }
}
