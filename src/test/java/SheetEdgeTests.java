import java.math.BigInteger;

/** The sentences about sheets (promises 25 to 31) that name a boundary, each with a test of its own. */
public final class SheetEdgeTests extends TestBase {
  private static final int[] NO_SHEET = {LEAST, -2, -1, 4, 5, MOST};
  private static final int[] NO_FORM = {LEAST, -2, -1, 3, 4, MOST};

  private SheetEdgeTests() {
  }

  public static void main(String[] args) {
    lostAtFirst();
    formsOfItems();
    zeroItemsAtFirst();
    sheetAnswers();
    sheetRefusals();
    loseAnswers();
    loseRefusals();
    putLowestBits();
    putItems();
    putRefusals();
    getAnswers();
    getRefusals();
    getTheLeast();
    moveAnswers();
    moveAsTheyWere();
    moveRefusals();
    moveLost();
    moveIndex();
    countAnswers();
    countOfFindings();
    countRefusals();
    digestOfAll();
    digestThatWraps();
    digestParts();
    Due.end("SheetEdgeTests");
  }

  // ---- rows

  private static void lostAtFirst() {
    Due.says("SHEETS 0 .. 3 are LOST (at first)");
    ThriceNets x = new ThriceNets();
    for (int s = 0; s < 4; s++) {
      due("LOST: " + s, x.put(s, BYTES, 0, 1), NULL);
      due("a row: " + s, x.sheet(s, BYTES, 1), 1);
      due("not LOST: " + s, x.put(s, BYTES, 0, 1), 1);
    }
    for (int s : NO_SHEET) {
      due("SHEET " + s, x.sheet(s, BYTES, 1), BAD);
    }
  }

  private static void formsOfItems() {
    Due.says("a row of a FORM: 0 bytes, 1 shorts, 2 ints, of 0 to 60 items (0 at first).");
    ThriceNets x = new ThriceNets();
    int[] kept = {(byte) 0x89ABCDEF, (short) 0x89ABCDEF, 0x89ABCDEF};
    for (int form = BYTES; form <= INTS; form++) {
      due("60 items", x.sheet(form, form, 60), 60);
      for (int i = 0; i < 60; i += 59) {
        due("0 at first", x.get(form, form, i), 0);
        due("put", x.put(form, form, i, 0x89ABCDEF), 1);
        due("as much of it as FORM " + form + " has", x.get(form, form, i), kept[form]);
      }
      due("item 60", x.put(form, form, 60, 1), INDEX);
      due("none", x.sheet(form, form, 0), 0);
      due("item 0 of none", x.put(form, form, 0, 1), INDEX);
    }
  }

  private static void zeroItemsAtFirst() {
    Due.says("A SHEET is a new row of a FORM with n items: n.");
    ThriceNets x = new ThriceNets();
    x.sheet(0, INTS, 60);
    for (int i = 0; i < 60; i++) {
      x.put(0, INTS, i, -1 - i);
    }
    due("a lesser one", x.sheet(0, INTS, 1), 1);
    due("its item", x.get(0, INTS, 0), 0);
    due("as great as before", x.sheet(0, INTS, 60), 60);
    for (int i = 0; i < 60; i++) {
      due("nothing of the old row, item " + i, x.get(0, INTS, i), 0);
    }
    x.put(0, INTS, 59, 7);
    due("the same again", x.sheet(0, INTS, 60), 60);
    due("new", x.get(0, INTS, 59), 0);
    x.put(0, INTS, 59, 7);
    due("lost", x.lose(0), 60);
    due("found", x.sheet(0, INTS, 60), 60);
    due("new, too", x.get(0, INTS, 59), 0);
    due("another FORM", x.sheet(0, BYTES, 60), 60);
    due("the old FORM", x.put(0, INTS, 0, 1), CAST);
    x.put(0, BYTES, 0, 5);
    due("another SHEET", x.sheet(1, BYTES, 60), 60);
    due("leaves this one", x.get(0, BYTES, 0), 5);
  }

  private static void sheetAnswers() {
    Due.says("with n items: n. BAD: SHEET, FORM, above 60; SIZE.");
    ThriceNets x = new ThriceNets();
    for (int n = 0; n <= 60; n++) {
      due("sheet(3, 2, " + n + ")", x.sheet(3, INTS, n), n);
      due("behind its last", x.put(3, INTS, n, 1), INDEX);
      due("its last", n == 0 ? 1 : x.put(3, INTS, n - 1, 1), 1);
    }
    int[] above = {61, 62, 1000, MOST};
    for (int n : above) {
      due("above 60: " + n, x.sheet(3, INTS, n), BAD);
    }
    due("60 still", x.lose(3), 60);
  }

  private static void sheetRefusals() {
    Due.says("5 SIZE: below 0.");
    ThriceNets x = new ThriceNets();
    x.sheet(2, SHORTS, 3);
    x.put(2, SHORTS, 2, 9);
    for (int form : NO_FORM) {
      due("FORM " + form, x.sheet(2, form, 3), BAD);
      due("FORM " + form + " below 0", x.sheet(2, form, -1), BAD);
    }
    for (int s : NO_SHEET) {
      due("SHEET " + s, x.sheet(s, SHORTS, 3), BAD);
      due("SHEET " + s + " below 0", x.sheet(s, SHORTS, -1), BAD);
    }
    due("no FINDING", x.count(6), 0);
    int[] below = {-1, -2, -60, -61, LEAST};
    for (int n : below) {
      due("below 0: " + n, x.sheet(2, SHORTS, n), SIZE);
      due("count(6)", x.count(6), 5);
    }
    due("below 0, another FORM", x.sheet(2, BYTES, -1), SIZE);
    due("it stands", x.get(2, SHORTS, 2), 9);
    due("a LOST one below 0", x.sheet(3, SHORTS, -1), SIZE);
    due("LOST still", x.lose(3), NULL);
  }

  private static void loseAnswers() {
    Due.says("It is LOST: how many items it had. BAD; NULL.");
    ThriceNets x = new ThriceNets();
    for (int s = 0; s < 4; s++) {
      for (int n = 0; n <= 60; n += 30) {
        x.sheet(s, s % 3, n);
        due("of " + n, x.lose(s), n);
        due("LOST", x.lose(s), NULL);
        due("LOST to get()", x.put(s, s % 3, 0, 1), NULL);
      }
    }
    x.sheet(0, BYTES, 4);
    x.sheet(3, BYTES, 5);
    due("the one", x.lose(0), 4);
    due("not the other", x.lose(3), 5);
  }

  private static void loseRefusals() {
    Due.says("1 NULL: the SHEET is LOST");
    ThriceNets x = new ThriceNets();
    for (int s : NO_SHEET) {
      due("lose(" + s + ")", x.lose(s), BAD);
    }
    due("no FINDING", x.count(6), 0);
    for (int s = 0; s < 4; s++) {
      ThriceNets y = new ThriceNets();
      due("lose(" + s + ")", y.lose(s), NULL);
      due("count(6)", y.count(6), 1);
      ThriceNets z = new ThriceNets();
      due("put", z.put(s, BYTES, 0, 1), NULL);
      due("count(6)", z.count(6), 1);
      ThriceNets w = new ThriceNets();
      due("get", w.get(s, INTS, 0), LEAST);
      due("count(6)", w.count(6), 1);
      ThriceNets v = new ThriceNets();
      due("move", v.move(s, 0, s, 0, 0), NULL);
      due("count(6)", v.count(6), 1);
    }
  }

  // ---- items

  private static void putLowestBits() {
    Due.says("Item i, treated as of a FORM, becomes v (the lowest bits that it has): 1.");
    ThriceNets x = new ThriceNets();
    for (int form = BYTES; form <= INTS; form++) {
      x.sheet(form, form, 1);
    }
    int[] values = {
      0, 1, -1, 127, 128, 129, 255, 256, 257, -127, -128, -129, -256, 32767, 32768, 32769, 65535, 65536, 65537,
      -32768, -32769, -65536, 0x7FFF0080, 0x00FF7FFF, MOST, MOST - 1, LEAST + 1, LEAST,
    };
    for (int v : values) {
      due("byte " + v, x.put(0, BYTES, 0, v), 1);
      due("it has", x.get(0, BYTES, 0), Math.floorMod(v + 128L, 256) - 128);
      due("short " + v, x.put(1, SHORTS, 0, v), 1);
      due("it has", x.get(1, SHORTS, 0), Math.floorMod(v + 32768L, 65536) - 32768);
      due("int " + v, x.put(2, INTS, 0, v), 1);
      due("it has", x.get(2, INTS, 0), v);
    }
    due("no FINDING, not by the least int", x.count(6), 0);
  }

  private static void putItems() {
    Due.says("`int put(int s, int form, int i, int v)`");
    for (int form = BYTES; form <= INTS; form++) {
      ThriceNets x = new ThriceNets();
      for (int s = 0; s < 4; s++) {
        x.sheet(s, form, 60);
        due("the first", x.put(s, form, 0, 10 + s), 1);
        due("the last", x.put(s, form, 59, 20 + s), 1);
      }
      for (int s = 0; s < 4; s++) {
        due("the first stands", x.get(s, form, 0), 10 + s);
        due("its neighbour has nothing", x.get(s, form, 1), 0);
        due("the last stands", x.get(s, form, 59), 20 + s);
        due("its neighbour has nothing", x.get(s, form, 58), 0);
      }
    }
  }

  private static void putRefusals() {
    Due.says("BAD; NULL; CAST; INDEX.");
    int[] noItem = {LEAST, -2, -1, 4, 5, 59, 60, MOST};
    for (int form = BYTES; form <= INTS; form++) {
      ThriceNets x = new ThriceNets();
      x.sheet(1, form, 4);
      for (int s : NO_SHEET) {
        due("SHEET " + s, x.put(s, form, 0, 1), BAD);
      }
      for (int other : NO_FORM) {
        due("FORM " + other, x.put(1, other, 0, 1), BAD);
        due("FORM " + other + " of a LOST one", x.put(0, other, 0, 1), BAD);
        due("FORM " + other + ", no such item", x.put(1, other, 4, 1), BAD);
      }
      due("no FINDING", x.count(6), 0);
      for (int i : noItem) {
        due("LOST, item " + i, x.put(0, form, i, 1), NULL);
        due("count(6)", x.count(6), 1);
        due("another FORM, item " + i, x.put(1, (form + 1) % 3, i, 1), CAST);
        due("the third FORM, item " + i, x.put(1, (form + 2) % 3, i, 1), CAST);
        due("count(6)", x.count(6), 3);
        due("item " + i, x.put(1, form, i, 1), INDEX);
        due("count(6)", x.count(6), 2);
      }
      due("another FORM, an item that is there", x.put(1, (form + 1) % 3, 0, 1), CAST);
      dueItems("nothing was put", x, 1, form, 0, 0, 0, 0);
    }
  }

  private static void getAnswers() {
    Due.says("Item i of it.");
    for (int form = BYTES; form <= INTS; form++) {
      ThriceNets x = new ThriceNets();
      x.sheet(3, form, 60);
      for (int i = 0; i < 60; i++) {
        x.put(3, form, i, 2 * i - 60);
      }
      for (int i = 0; i < 60; i++) {
        due("item " + i, x.get(3, form, i), 2 * i - 60);
      }
      due("no FINDING", x.count(6), 0);
    }
  }

  private static void getRefusals() {
    Due.says("BAD: the least int; so are NULL, CAST, INDEX (count() 6 tells).");
    int[] noItem = {LEAST, -2, -1, 4, 5, 59, 60, MOST};
    for (int form = BYTES; form <= INTS; form++) {
      ThriceNets x = new ThriceNets();
      x.sheet(1, form, 4);
      for (int s : NO_SHEET) {
        due("SHEET " + s, x.get(s, form, 0), LEAST);
      }
      for (int other : NO_FORM) {
        due("FORM " + other, x.get(1, other, 0), LEAST);
        due("FORM " + other + " of a LOST one", x.get(0, other, 9), LEAST);
      }
      due("which are no FINDINGS", x.count(6), 0);
      for (int i : noItem) {
        due("LOST, item " + i, x.get(0, form, i), LEAST);
        due("count(6)", x.count(6), 1);
        due("another FORM, item " + i, x.get(1, (form + 1) % 3, i), LEAST);
        due("count(6)", x.count(6), 3);
        due("item " + i, x.get(1, form, i), LEAST);
        due("count(6)", x.count(6), 2);
      }
      due("another FORM, an item that is there", x.get(1, (form + 2) % 3, 0), LEAST);
      due("count(6)", x.count(6), 3);
      due("SHEET 4", x.get(4, form, 0), LEAST);
      due("the FINDING before it stands", x.count(6), 3);
      due("an item", x.get(1, form, 3), 0);
      due("the FINDING before it stands", x.count(6), 3);
    }
  }

  private static void getTheLeast() {
    Due.says("(count() 6 tells)");
    ThriceNets x = new ThriceNets();
    x.sheet(0, INTS, 1);
    x.put(0, INTS, 0, LEAST);
    due("an item that is the least int", x.get(0, INTS, 0), LEAST);
    due("no FINDING", x.count(6), 0);
    due("no item", x.get(0, INTS, 1), LEAST);
    due("a FINDING", x.count(6), 2);
  }

  // ---- move

  /** SHEET 0 of a FORM with 1, 2 .. n. */
  private static ThriceNets counting(int form, int n) {
    ThriceNets x = new ThriceNets();
    x.sheet(0, form, n);
    for (int i = 0; i < n; i++) {
      x.put(0, form, i, i + 1);
    }
    return x;
  }

  private static void moveAnswers() {
    Due.says("n items of SHEET s, from i on, come to SHEET t (perhaps s, as they were), from j on: 1.");
    for (int form = BYTES; form <= INTS; form++) {
      ThriceNets x = counting(form, 60);
      x.sheet(3, form, 60);
      due("one, the first to the last", x.move(0, 0, 3, 59, 1), 1);
      due("there", x.get(3, form, 59), 1);
      due("here, too", x.get(0, form, 0), 1);
      due("not beside it", x.get(3, form, 58), 0);
      due("one, the last to the first", x.move(0, 59, 3, 0, 1), 1);
      due("there", x.get(3, form, 0), 60);
      due("not beside it", x.get(3, form, 1), 0);
      due("all", x.move(0, 0, 3, 0, 60), 1);
      for (int i = 0; i < 60; i++) {
        due("all there, item " + i, x.get(3, form, i), i + 1);
      }
      due("none", x.move(0, 0, 3, 1, 0), 1);
      due("none came", x.get(3, form, 1), 2);
      x.sheet(1, form, 2);
      due("to a lesser one", x.move(3, 58, 1, 0, 2), 1);
      dueItems("its two", x, 1, form, 59, 60);
      due("no FINDING", x.count(6), 0);
    }
  }

  private static void moveAsTheyWere() {
    Due.says("(perhaps s, as they were)");
    for (int form = BYTES; form <= INTS; form++) {
      ThriceNets up = counting(form, 6);
      due("upwards by one", up.move(0, 0, 0, 1, 5), 1);
      dueItems("upwards by one", up, 0, form, 1, 1, 2, 3, 4, 5);
      ThriceNets down = counting(form, 6);
      due("downwards by one", down.move(0, 1, 0, 0, 5), 1);
      dueItems("downwards by one", down, 0, form, 2, 3, 4, 5, 6, 6);
      ThriceNets far = counting(form, 6);
      due("upwards by two", far.move(0, 0, 0, 2, 4), 1);
      dueItems("upwards by two", far, 0, form, 1, 2, 1, 2, 3, 4);
      ThriceNets same = counting(form, 6);
      due("to the same place", same.move(0, 0, 0, 0, 6), 1);
      dueItems("to the same place", same, 0, form, 1, 2, 3, 4, 5, 6);
    }
  }

  private static void moveRefusals() {
    Due.says("BAD: the SHEETS; NULL: s, t; STORE; INDEX: below 0, not so many.");
    ThriceNets x = counting(BYTES, 3);
    x.sheet(1, SHORTS, 3);
    for (int s : NO_SHEET) {
      due("from SHEET " + s, x.move(s, 0, 0, 0, 1), BAD);
      due("to SHEET " + s, x.move(0, 0, s, 0, 1), BAD);
      due("from SHEET " + s + " to a LOST one", x.move(s, 0, 3, 0, 1), BAD);
      due("from a LOST one to SHEET " + s, x.move(3, 0, s, 0, 1), BAD);
      due("SHEET " + s + ", no such items", x.move(s, -1, 0, -1, -1), BAD);
    }
    due("no FINDING", x.count(6), 0);
    for (int from = BYTES; from <= INTS; from++) {
      for (int to = BYTES; to <= INTS; to++) {
        x.sheet(1, from, 3);
        x.sheet(2, to, 3);
        due("FORM " + from + " to FORM " + to, x.move(1, 0, 2, 0, 3), from == to ? 1 : UNLIKE);
        due("none of FORM " + from + " to FORM " + to, x.move(1, 0, 2, 0, 0), from == to ? 1 : UNLIKE);
        due("no such items, FORM " + from + " to FORM " + to, x.move(1, 1, 2, 0, 3), from == to ? INDEX : UNLIKE);
        due("count(6)", x.count(6), from == to ? 2 : 4);
      }
    }
  }

  private static void moveLost() {
    Due.says("NULL: s, t");
    ThriceNets x = counting(BYTES, 3);
    due("from a LOST one", x.move(1, 0, 0, 0, 1), NULL);
    due("count(6)", x.count(6), 1);
    x.sheet(2, BYTES, -1);
    due("to a LOST one", x.move(0, 0, 1, 0, 1), NULL);
    due("count(6)", x.count(6), 1);
    due("from and to a LOST one", x.move(3, 0, 1, 0, 1), NULL);
    due("a LOST one to itself", x.move(3, 0, 3, 0, 0), NULL);
    due("none from a LOST one", x.move(3, 0, 0, 0, 0), NULL);
    due("none to a LOST one", x.move(0, 0, 3, 0, 0), NULL);
    due("no such items from a LOST one", x.move(3, 60, 0, 0, 1), NULL);
    due("no such items to a LOST one", x.move(0, 60, 3, 0, 1), NULL);
    due("less than none to a LOST one", x.move(0, 0, 3, 0, -1), NULL);
    dueItems("they stand", x, 0, BYTES, 1, 2, 3);
  }

  private static void moveIndex() {
    Due.says("INDEX: below 0, not so many.");
    ThriceNets x = counting(INTS, 5);
    x.sheet(1, INTS, 3);
    int[][] good = {{0, 0, 3}, {2, 0, 3}, {4, 2, 1}, {5, 3, 0}, {0, 3, 0}, {5, 0, 0}};
    for (int[] call : good) {
      due("from " + call[0] + " to " + call[1] + ", " + call[2], x.move(0, call[0], 1, call[1], call[2]), 1);
    }
    dueItems("what came last", x, 1, INTS, 3, 4, 5);
    int[][] none = {
      {-1, 0, 1}, {0, -1, 1}, {-1, 0, 0}, {0, -1, 0}, {0, 0, -1}, {3, 0, 3}, {5, 0, 1}, {6, 0, 0}, {0, 1, 3},
      {0, 3, 1}, {0, 4, 0}, {0, 0, 4}, {0, 0, 6}, {LEAST, 0, 1}, {0, LEAST, 1}, {0, 0, LEAST}, {MOST, 0, 1},
      {0, MOST, 1}, {0, 0, MOST}, {MOST, 0, MOST}, {0, MOST, MOST}, {MOST, MOST, MOST}, {1, 0, MOST}, {0, 1, MOST},
      {MOST, 0, 0}, {0, MOST, 0}, {LEAST, LEAST, LEAST}, {MOST, 0, LEAST}, {LEAST, 0, LEAST}, {-1, 0, 6}, {5, 3, -1},
    };
    for (int[] call : none) {
      x.move(3, 0, 3, 0, 0);
      due("from " + call[0] + " to " + call[1] + ", " + call[2], x.move(0, call[0], 1, call[1], call[2]), INDEX);
      due("count(6)", x.count(6), 2);
    }
    dueItems("they stand", x, 0, INTS, 1, 2, 3, 4, 5);
    dueItems("and there", x, 1, INTS, 3, 4, 5);
    ThriceNets empty = new ThriceNets();
    empty.sheet(0, BYTES, 0);
    due("none of none", empty.move(0, 0, 0, 0, 0), 1);
    due("one of none", empty.move(0, 0, 0, 0, 1), INDEX);
    ThriceNets full = counting(BYTES, 60);
    due("61 of 60", full.move(0, 0, 0, 0, 61), INDEX);
    due("60 of 60", full.move(0, 0, 0, 0, 60), 1);
  }

  // ---- counts

  private static void countAnswers() {
    Due.says("0 NODES, 1 INPUTS, 2 STORES, 3 OUTPUTS, 4 THRICE, 5 VOTED, 6 the number of the latest FINDING (0 before any), 7 T, 8 VOTER.");
    dueCounts(new ThriceNets(), 0, 0, 0, 0, 0, 0, 0, 8, 1);
    dueCounts(oneOfEachKind(), 6, 1, 1, 0, 0, 0, 0, 8, 1);
    dueCounts(withInputs(24), 24, 24, 0, 0, 0, 0, 0, 8, 1);
    ThriceNets x = withStores(24);
    dueCounts(x, 24, 0, 24, 0, 0, 0, 0, 8, 1);
    for (int node = 0; node < 24; node++) {
      x.output(node, true);
    }
    dueCounts(x, 24, 0, 24, 24, 0, 0, 0, 8, 1);
    allThrice(x);
    dueCounts(x, 24, 0, 24, 24, 24, 0, 0, 8, 1);
    for (int node = 0; node < 24; node++) {
      x.vote(node, true);
    }
    dueCounts(x, 24, 0, 24, 24, 24, 24, 0, 8, 1);
    x.ticks(16);
    x.voter(1000);
    x.lose(3);
    dueCounts(x, 24, 0, 24, 24, 24, 24, 1, 16, 1000);
    x.ticks(1);
    x.voter(0);
    x.thrice(23, false);
    x.vote(0, false);
    x.output(11, false);
    dueCounts(x, 24, 0, 24, 23, 23, 22, 1, 1, 0);
  }

  private static void dueCounts(ThriceNets x, int... counts) {
    for (int what = 0; what < counts.length; what++) {
      due("count(" + what + ")", x.count(what), counts[what]);
    }
  }

  private static void countOfFindings() {
    Due.says("FINDINGS (answers -10 less the number; they change nothing but count() 6)");
    ThriceNets x = new ThriceNets();
    x.sheet(0, BYTES, 1);
    x.sheet(1, SHORTS, 1);
    due("0 before any", x.count(6), 0);
    due("1 NULL", x.lose(3), -11);
    due("count(6)", x.count(6), 1);
    due("2 INDEX", x.put(0, BYTES, 1, 0), -12);
    due("count(6)", x.count(6), 2);
    due("3 CAST", x.put(0, SHORTS, 0, 0), -13);
    due("count(6)", x.count(6), 3);
    due("4 STORE", x.move(0, 0, 1, 0, 1), -14);
    due("count(6)", x.count(6), 4);
    due("5 SIZE", x.sheet(0, BYTES, -1), -15);
    due("count(6)", x.count(6), 5);
    due("a good call", x.put(0, BYTES, 0, 1), 1);
    due("a BAD one", x.put(4, BYTES, 0, 1), BAD);
    due("a BAD node", x.node(6, NONE, NONE), BAD);
    due("the latest stands", x.count(6), 5);
    due("and the next", x.lose(2), -11);
    due("is the latest", x.count(6), 1);
  }

  private static void countRefusals() {
    Due.says("`int count(int what)`");
    int[] none = {LEAST, -2, -1, 9, 10, MOST};
    for (int what : none) {
      due("count(" + what + ")", new ThriceNets().count(what), BAD);
      due("count(" + what + ") of a full net", withStores(24).count(what), BAD);
    }
    due("the first", withStores(24).count(0), 24);
    due("the last", withStores(24).count(8), 1);
  }

  // ---- digest

  /** The document's sum in numbers that never wrap, of which then the lowest 64 bits are taken. */
  private static long wrapped(ThriceNets x) {
    BigInteger h = BigInteger.valueOf(17);
    for (int what = 0; what <= 8; what++) {
      h = what == 6 ? h : next(h, x.count(what));
    }
    int nodes = x.count(0);
    for (int node = 0; node < nodes; node++) {
      for (int what = 1; what <= 6; what++) {
        h = next(h, x.about(node, what));
      }
    }
    int t = x.count(7);
    for (int node = 0; node < nodes; node++) {
      for (int tick = 0; x.about(node, 3) == 1 && tick < t; tick++) {
        h = next(h, x.plain(node, tick));
      }
    }
    return next(h, x.cost()).longValue();
  }

  private static BigInteger next(BigInteger h, int more) {
    return h.multiply(BigInteger.valueOf(31)).add(BigInteger.valueOf(more));
  }

  private static void digestOfAll() {
    Due.says("h is 17; h becomes 31 h and each of: count() 0 to 5, 7, 8, of each NODE about() 1 to 6, "
        + "of each OUTPUT plain() of TICKS 0 to T less 1, cost()");
    // 17 and nine numbers, of which 8, 1 and 0 are the last: by hand.
    long powers = 31L * 31 * 31 * 31 * 31 * 31;
    due("the empty net", new ThriceNets().digest(), ((17 * powers * 31 + 8) * 31 + 1) * 31);
    ThriceNets x = oneOfEachKind();
    due("one of each KIND", x.digest(), wrapped(x));
    x.output(1, true);
    x.output(5, true);
    x.feed(5, 1);
    inputs(x, 1, 0, 0, 1, 1, 0, 1, 0, 1, 0, 0, 1, 1, 0, 1, 0);
    for (int t = 1; t <= 16; t += 5) {
      x.ticks(t);
      due("T " + t, x.digest(), wrapped(x));
    }
  }

  private static void digestThatWraps() {
    Due.says("as longs that wrap.");
    ThriceNets none = new ThriceNets();
    due("the empty net does not wrap yet", none.digest(), wrapped(none));
    ThriceNets one = withInputs(1);
    due("one NODE", one.digest(), wrapped(one));
    ThriceNets x = withStores(12);
    for (int node = 12; node < 24; node++) {
      x.node(INVERTER, node - 12, NONE);
      x.feed(node - 12, node);
      x.price(node, 1000);
    }
    due("24 NODES", x.digest(), wrapped(x));
    ThriceNets y = withStores(23);
    y.node(INVERTER, 22, NONE);
    y.feed(0, 23);
    y.voter(1000);
    for (int node = 0; node < 24; node++) {
      y.output(node, node % 3 == 0 || node == 23);
      y.thrice(node, true);
      y.price(node, 1000);
      y.vote(node, true);
    }
    y.ticks(10);
    due("24 NODES with all that can be told", y.digest(), wrapped(y));
  }

  private static void digestParts() {
    Due.says("`long digest()`");
    long[] seen = new long[12];
    ThriceNets x = oneOfEachKind();
    x.sheet(0, BYTES, 16);
    int n = 0;
    seen[n++] = x.digest();
    x.voter(2);
    seen[n++] = x.digest();
    x.ticks(9);
    seen[n++] = x.digest();
    x.price(0, 2);
    seen[n++] = x.digest();
    x.feed(5, 4);
    seen[n++] = x.digest();
    x.thrice(5, true);
    seen[n++] = x.digest();
    x.vote(5, true);
    seen[n++] = x.digest();
    x.output(0, true);
    seen[n++] = x.digest();
    x.put(0, BYTES, 8, 1);
    seen[n++] = x.digest();
    input(x);
    seen[n++] = x.digest();
    for (int i = 0; i < n; i++) {
      for (int j = 0; j < i; j++) {
        Due.dueTrue("digest " + i + " is another than " + j, seen[i] != seen[j]);
      }
    }
    x.put(0, BYTES, 9, 1);
    due("an item behind T tells nothing", x.digest(), seen[n - 1]);
    x.put(0, BYTES, 0, 2);
    due("nor does the bit of an INPUT that is no OUTPUT", x.digest(), seen[n - 1]);
    x.lose(3);
    due("nor does a FINDING", x.digest(), seen[n - 1]);
    x.sheet(1, INTS, 60);
    due("nor does another SHEET", x.digest(), seen[n - 1]);
  }
}
