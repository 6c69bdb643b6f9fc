/** The sentences about runs (promises 9 to 17) that name a boundary, each with a test of its own. */
public final class RunEdgeTests extends TestBase {
  private static final int[] NO_TICK = {LEAST, -2, -1, 16, 17, MOST};

  private RunEdgeTests() {
  }

  public static void main(String[] args) {
    workedOutByNumbers();
    storesTakeAtOnce();
    zeroAtFirst();
    atTheTicksBeginning();
    bitsOfInputs();
    bitsAsTheItemStands();
    noSuchItem();
    spanRange();
    ticksAnswers();
    plainRange();
    plainRefusals();
    copiesOfANode();
    copyRange();
    copyRefusals();
    copyByCopy();
    singleTakesMajority();
    copiesOfAnInput();
    votedTakesMajority();
    outputTellsMajority();
    inThatTick();
    onTheSpot();
    seen();
    lingers();
    Due.end("RunEdgeTests");
  }

  // ---- the plain net

  private static void workedOutByNumbers() {
    Due.says("all NODES but STORES are worked out by their numbers");
    ThriceNets x = withInputs(1);
    for (int node = 1; node < 24; node++) {
      x.node(INVERTER, node - 1, NONE);
    }
    inputs(x, 0, 1);
    for (int node = 0; node < 24; node++) {
      due("in TICK 0, NODE " + node, x.plain(node, 0), node % 2);
      due("in TICK 1, NODE " + node, x.plain(node, 1), 1 - node % 2);
    }
  }

  private static void storesTakeAtOnce() {
    Due.says("then all STORES take what their SOURCES have, at once.");
    ThriceNets up = withInputs(1);
    ThriceNets down = withStores(23);
    input(down);
    for (int node = 1; node < 24; node++) {
      store(up);
      up.feed(node, node - 1);
      down.feed(node - 1, node);
    }
    inputs(up, 1);
    inputs(down, 1);
    // The one bit goes from STORE to STORE, one in each TICK, whichever has the lesser number.
    for (int tick = 0; tick < 16; tick++) {
      due("upwards, there in TICK " + tick, up.plain(tick, tick), 1);
      due("upwards, not yet in TICK " + tick, up.plain(tick + 1, tick), 0);
      due("downwards, there in TICK " + tick, down.plain(23 - tick, tick), 1);
      due("downwards, not yet in TICK " + tick, down.plain(22 - tick, tick), 0);
    }
    due("upwards, gone on", up.plain(1, 2), 0);
    due("downwards, gone on", down.plain(22, 2), 0);
  }

  private static void zeroAtFirst() {
    Due.says("STORES have 0 at first.");
    ThriceNets x = withStores(24);
    for (int node = 0; node < 24; node++) {
      due("STORE " + node, x.plain(node, 0), 0);
      due("which it keeps, STORE " + node, x.plain(node, 15), 0);
    }
    ThriceNets y = new ThriceNets();
    input(y);
    store(y);
    y.feed(1, 0);
    inputs(y, 1);
    due("though its SOURCE has 1", y.plain(1, 0), 0);
    y.plain(1, 15);
    due("once more", y.plain(1, 0), 0);
  }

  private static void atTheTicksBeginning() {
    Due.says("A NODE's bit in a TICK: of a STORE that which it has at the TICK's beginning.");
    ThriceNets x = withStores(1);
    x.feed(0, x.node(INVERTER, 0, NONE));
    for (int tick = 0; tick < 16; tick++) {
      due("the STORE in TICK " + tick, x.plain(0, tick), tick % 2);
      due("NOT of it in TICK " + tick, x.plain(1, tick), 1 - tick % 2);
    }
  }

  private static void bitsOfInputs() {
    Due.says("bit i of item t of SHEET 0 for INPUT i");
    ThriceNets x = withInputs(24);
    for (int tick = 0; tick < 16; tick += 15) {
      for (int bit = 0; bit < 32; bit++) {
        x.sheet(0, INTS, 16);
        x.put(0, INTS, tick, 1 << bit);
        int there = Math.min(bit, 23);
        due("INPUT " + there + " by bit " + bit, x.plain(there, tick), bit < 24 ? 1 : 0);
        due("INPUT 0 by bit " + bit, x.plain(0, tick), bit == 0 ? 1 : 0);
        due("INPUT " + there + " in another TICK", x.plain(there, 15 - tick), 0);
      }
    }
    ThriceNets y = withInputs(1);
    y.sheet(0, INTS, 60);
    y.put(0, INTS, 16, 1);
    due("item 16 is of no TICK", y.plain(0, 15), 0);
    y.put(0, INTS, 15, 1);
    due("item 15 is", y.plain(0, 15), 1);
    for (int s = 1; s < 4; s++) {
      y.sheet(s, INTS, 60);
      y.put(s, INTS, 0, -1);
    }
    due("SHEETS 1 to 3 tell nothing", y.plain(0, 0), 0);
  }

  private static void bitsAsTheItemStands() {
    Due.says("(as the item stands, the lowest bit for INPUT 0)");
    ThriceNets x = withInputs(24);
    int[] bits = {8, 16, 32};
    for (int form = BYTES; form <= INTS; form++) {
      int high = Math.min(bits[form], 24) - 1;
      x.sheet(0, form, 1);
      x.put(0, form, 0, 1);
      due("1: INPUT 0, FORM " + form, x.plain(0, 0), 1);
      due("1: INPUT 1, FORM " + form, x.plain(1, 0), 0);
      due("1: INPUT 23, FORM " + form, x.plain(23, 0), 0);
      x.put(0, form, 0, 1 << high);
      due("its highest bit, FORM " + form, x.plain(high, 0), 1);
      due("the one below, FORM " + form, x.plain(high - 1, 0), 0);
      x.put(0, form, 0, -1);
      due("-1: INPUT 0, FORM " + form, x.plain(0, 0), 1);
      due("-1: INPUT 23, FORM " + form, x.plain(23, 0), 1);
    }
    x.sheet(0, BYTES, 1);
    x.put(0, BYTES, 0, 0x100);
    due("a bit that a byte has not", x.plain(8, 0), 0);
    x.sheet(0, SHORTS, 1);
    x.put(0, SHORTS, 0, 0x10000);
    due("a bit that a short has not", x.plain(16, 0), 0);
  }

  private static void noSuchItem() {
    Due.says("0, if there is no such item.");
    ThriceNets x = withInputs(1);
    due("LOST at first", x.plain(0, 0) + x.plain(0, 15), 0);
    for (int form = BYTES; form <= INTS; form++) {
      x.sheet(0, form, 0);
      due("no items", x.plain(0, 0), 0);
      for (int size = 1; size <= 15; size += 7) {
        x.sheet(0, form, size);
        for (int i = 0; i < size; i++) {
          x.put(0, form, i, -1);
        }
        due("the first of " + size, x.plain(0, 0), 1);
        due("the last of " + size, x.plain(0, size - 1), 1);
        due("behind the last of " + size, x.plain(0, size), 0);
        due("far behind it", x.plain(0, 15), 0);
      }
      x.sheet(0, form, 16);
      x.put(0, form, 15, 1);
      due("the last of 16", x.plain(0, 15), 1);
      x.lose(0);
      due("LOST again", x.plain(0, 15), 0);
    }
    due("and no FINDING", x.count(6), 0);
    due("one FLIP all the same", x.flip(7, 0, 0), 0);
  }

  private static void spanRange() {
    Due.says("RUNS are over TICKS 0 .. T - 1 (T told, 1 to 16; 8 at first).");
    ThriceNets x = withInputs(1);
    x.output(0, true);
    due("8 at first", x.count(7), 8);
    due("TICK 7 of 8", x.flip(7, 0, 0), 1);
    due("TICK 8 of 8", x.flip(8, 0, 0), BAD);
    due("T 1", x.ticks(1), 8);
    due("TICK 0 of 1", x.flip(0, 0, 0), 1);
    due("TICK 1 of 1", x.flip(1, 0, 0), BAD);
    due("one FLIP", x.many(1), 1);
    due("T 16", x.ticks(16), 1);
    due("TICK 15 of 16", x.flip(15, 0, 0), 1);
    due("TICK 16 of 16", x.flip(16, 0, 0), BAD);
    due("16 FLIPS", x.many(1), 16);
  }

  private static void ticksAnswers() {
    Due.says("T: what it was. BAD.");
    ThriceNets x = new ThriceNets();
    int[] none = {LEAST, -1, 0, 17, 18, MOST};
    for (int t : none) {
      due("ticks(" + t + ")", x.ticks(t), BAD);
      due("8 still", x.count(7), 8);
    }
    int was = 8;
    for (int t = 1; t <= 16; t++) {
      due("ticks(" + t + ")", x.ticks(t), was);
      due("count(7)", x.count(7), t);
      was = t;
    }
    due("16 again", x.ticks(16), 16);
  }

  private static void plainRange() {
    Due.says("The bit of a NODE in a TICK (0 to 15) of the PLAIN NET. BAD.");
    ThriceNets x = withInputs(24);
    inputs(x, 1, 0, 0, 0, 0, 0, 0, 0, 0, 0, 0, 0, 0, 0, 0, 1 << 23);
    for (int t = 1; t <= 16; t += 15) {
      x.ticks(t);
      due("NODE 0 in TICK 0, T " + t, x.plain(0, 0), 1);
      due("NODE 23 in TICK 15, T " + t, x.plain(23, 15), 1);
      for (int tick : NO_TICK) {
        due("TICK " + tick + ", T " + t, x.plain(0, tick), BAD);
      }
    }
    x.harden();
    due("THRICE or not", x.plain(23, 15), 1);
  }

  private static void plainRefusals() {
    Due.says("`int plain(int node, int tick)`");
    due("in the empty net", new ThriceNets().plain(0, 0), BAD);
    int[] none = {LEAST, -2, -1, 24, 25, MOST};
    ThriceNets x = withInputs(24);
    for (int node : none) {
      due("NODE " + node, x.plain(node, 0), BAD);
    }
    ThriceNets y = withInputs(1);
    due("NODE 1 of one", y.plain(1, 0), BAD);
    due("no such NODE nor TICK", y.plain(1, 16), BAD);
  }

  // ---- copies

  private static void copiesOfANode() {
    Due.says("A SINGLE NODE has one COPY, one that is THRICE COPIES 0, 1, 2.");
    ThriceNets x = oneOfEachKind();
    for (int node = INPUT; node <= STORE; node++) {
      for (int c = -1; c <= 3; c++) {
        due("SINGLE, COPY " + c, x.flip(0, node, c) == BAD ? BAD : 0, c == 0 ? 0 : BAD);
        due("SINGLE, copy() " + c, x.copy(node, c, 0) == BAD ? BAD : 0, c == 0 ? 0 : BAD);
      }
      x.thrice(node, true);
      for (int c = -1; c <= 3; c++) {
        boolean there = c >= 0 && c <= 2;
        due("THRICE, COPY " + c, x.flip(0, node, c) == BAD ? BAD : 0, there ? 0 : BAD);
        due("THRICE, copy() " + c, x.copy(node, c, 0) == BAD ? BAD : 0, there ? 0 : BAD);
      }
      x.thrice(node, false);
      due("SINGLE again", x.copy(node, 1, 0), BAD);
    }
  }

  private static void copyRange() {
    Due.says("The bit of a COPY in a TICK (0 to 15) of THE BEARING NET without FLIPS.");
    ThriceNets x = withStores(1);
    int not = x.node(INVERTER, 0, NONE);
    x.feed(0, not);
    x.ticks(1);
    for (int round = 0; round < 3; round++) {
      for (int tick = 0; tick < 16; tick += 5) {
        for (int c = 0; c < (round == 0 ? 1 : 3); c++) {
          due("COPY " + c + " of the STORE in TICK " + tick, x.copy(0, c, tick), tick % 2);
        }
        due("NOT of it in TICK " + tick, x.copy(not, 0, tick), 1 - tick % 2);
      }
      // SINGLE, then THRICE, then VOTED: without FLIPS the bits are the same.
      x.thrice(0, true);
      x.vote(0, round > 0);
    }
    x.flip(0, 0, 2);
    due("a RUN with a FLIP is over when it is told", x.copy(0, 2, 0), 0);
  }

  private static void copyRefusals() {
    Due.says("BAD: also no such COPY.");
    ThriceNets x = withInputs(24);
    x.thrice(23, true);
    for (int tick : NO_TICK) {
      due("TICK " + tick, x.copy(23, 2, tick), BAD);
    }
    int[] noNode = {LEAST, -2, -1, 24, 25, MOST};
    for (int node : noNode) {
      due("NODE " + node, x.copy(node, 0, 0), BAD);
    }
    int[] noCopy = {LEAST, -2, -1, 3, 4, MOST};
    for (int c : noCopy) {
      due("COPY " + c + " of a THRICE NODE", x.copy(23, c, 0), BAD);
      due("COPY " + c + " of a SINGLE NODE", x.copy(0, c, 0), BAD);
    }
    due("COPY 1 of a SINGLE NODE", x.copy(0, 1, 0), BAD);
    due("COPY 2 of a SINGLE NODE", x.copy(22, 2, 15), BAD);
    due("COPY 2 of a THRICE NODE", x.copy(23, 2, 15), 0);
    due("in the empty net", new ThriceNets().copy(0, 0, 0), BAD);
  }

  private static void copyByCopy() {
    Due.says("COPY c of a NODE takes of a SOURCE that is THRICE its COPY c, of one that is SINGLE that");
    ThriceNets x = withInputs(1);
    int gate = x.node(INVERTER, 0, NONE);
    int held = store(x);
    x.feed(held, gate);
    x.output(gate, true);
    x.ticks(1);
    allThrice(x);
    for (int c = 0; c < 3; c++) {
      for (int d = 0; d < 3; d++) {
        // Of one COPY they undo one another; of two, two COPIES of the gate are wrong.
        due("COPY " + c + " of the SOURCE, " + d + " of the gate", x.flips(0, 0, c, 0, gate, d), c == d ? 0 : 3);
      }
      due("COPY " + c + " comes to that of the STORE", x.flip(0, 0, c), 2);
      x.output(gate, false);
      due("COPY " + c + ", and no OUTPUT", x.flip(0, 0, c), 2);
      x.output(gate, true);
    }
    x.thrice(0, false);
    due("all COPIES take a SINGLE one", x.flip(0, 0, 0), 3);
    for (int d = 0; d < 3; d++) {
      due("two COPIES are wrong still", x.flips(0, 0, 0, 0, gate, d), 3);
    }
    x.thrice(gate, false);
    due("all COPIES of the STORE take a SINGLE gate", x.flip(0, gate, 0), 3);
  }

  private static void singleTakesMajority() {
    Due.says("a SINGLE NODE takes of a SOURCE that is THRICE the MAJORITY of its COPIES.");
    for (int kind = INVERTER; kind <= XOR; kind++) {
      ThriceNets x = withInputs(2);
      int gate = kind == INVERTER ? x.node(kind, 1, NONE) : x.node(kind, 0, 1);
      inputs(x, kind == AND ? 1 : 0);
      x.thrice(1, true);
      x.output(gate, true);
      for (int c = 0; c < 3; c++) {
        due("one FLIP, KIND " + kind, x.flip(0, 1, c), 0);
        due("two FLIPS, KIND " + kind, x.flips(0, 1, c, 0, 1, (c + 1) % 3), 1);
      }
    }
    // Of each SOURCE another COPY: two of the AND's COPIES would be wrong, but it has one.
    ThriceNets both = withInputs(2);
    int and = both.node(AND, 0, 1);
    inputs(both, 3);
    allThrice(both);
    both.output(and, true);
    for (int c = 0; c < 3; c++) {
      int d = (c + 1) % 3;
      due("a THRICE AND of two SOURCES", both.flips(0, 0, c, 0, 1, d), 1);
      both.thrice(and, false);
      due("a SINGLE AND of two SOURCES", both.flips(0, 0, c, 0, 1, d), 0);
      both.thrice(and, true);
    }
    ThriceNets y = withInputs(1);
    y.feed(store(y), 0);
    y.thrice(0, true);
    for (int c = 0; c < 3; c++) {
      due("one FLIP, a STORE", y.flip(7, 0, c), 0);
      due("two FLIPS, a STORE", y.flips(7, 0, c, 7, 0, (c + 1) % 3), 2);
    }
  }

  private static void copiesOfAnInput() {
    Due.says("An INPUT's COPIES all have its bit.");
    ThriceNets x = withInputs(24);
    inputs(x, 1 | 1 << 23, 0);
    allThrice(x);
    for (int c = 0; c < 3; c++) {
      due("the first, COPY " + c, x.copy(0, c, 0), 1);
      due("the last, COPY " + c, x.copy(23, c, 0), 1);
      due("another one, COPY " + c, x.copy(12, c, 0), 0);
      due("another TICK, COPY " + c, x.copy(0, c, 1), 0);
    }
  }

  private static void votedTakesMajority() {
    Due.says("COPY c of a STORE that is VOTED takes the MAJORITY of what its three COPIES would take.");
    ThriceNets x = withInputs(1);
    int held = store(x);
    x.feed(held, 0);
    allThrice(x);
    for (int c = 0; c < 3; c++) {
      due("not VOTED: one FLIP", x.flip(7, 0, c), 2);
    }
    x.vote(held, true);
    for (int c = 0; c < 3; c++) {
      due("VOTED: one FLIP", x.flip(7, 0, c), 0);
      due("VOTED: two FLIPS", x.flips(7, 0, c, 7, 0, (c + 1) % 3), 2);
      due("VOTED: its own COPY", x.flip(7, held, c), 0);
    }
    x.thrice(0, false);
    due("VOTED: a SINGLE SOURCE", x.flip(7, 0, 0), 2);
    x.feed(held, held);
    x.output(held, true);
    for (int c = 0; c < 3; c++) {
      int d = (c + 1) % 3;
      due("VOTED on itself: mended in the first TICK", x.flip(0, held, c), 0);
      due("VOTED on itself: mended in the last", x.flip(7, held, c), 0);
      due("VOTED on itself: mended between two", x.flips(6, held, c, 7, held, d), 0);
      due("VOTED on itself: two at once", x.flips(7, held, c, 7, held, d), 3);
    }
    x.vote(held, false);
    due("not VOTED: not mended", x.flip(0, held, 0), 2);
    due("not VOTED: nor between two", x.flips(6, held, 0, 7, held, 1), 3);
    due("not VOTED: flipped back", x.flips(6, held, 0, 7, held, 0), 0);
  }

  private static void outputTellsMajority() {
    Due.says("An OUTPUT that is THRICE tells the MAJORITY of its COPIES.");
    for (int node = INPUT; node <= STORE; node++) {
      ThriceNets x = oneOfEachKind();
      x.output(node, true);
      due("SINGLE, KIND " + node, x.flip(0, node, 0) & 1, 1);
      x.thrice(node, true);
      for (int c = 0; c < 3; c++) {
        int d = (c + 1) % 3;
        due("one COPY, KIND " + node, x.flip(0, node, c) & 1, 0);
        due("two COPIES, KIND " + node, x.flips(0, node, c, 0, node, d) & 1, 1);
      }
    }
    ThriceNets y = withInputs(1);
    y.output(0, true);
    y.thrice(0, true);
    due("two COPIES in two TICKS", y.flips(0, 0, 0, 1, 0, 1), 0);
  }

  // ---- flips

  private static void inThatTick() {
    Due.says("in that TICK that COPY has the other bit, for all that takes it");
    ThriceNets x = withInputs(1);
    int held = store(x);
    x.feed(held, 0);
    x.ticks(3);
    due("not in the TICK behind it", x.flip(1, 0, 0), 0);
    x.output(held, true);
    due("taken in it, and told in the next", x.flip(1, 0, 0), 1);
    x.output(held, false);
    x.output(0, true);
    due("not in the TICK before it", x.flip(2, 0, 0), 3);
    x.output(0, false);
    int same = x.node(XOR, 0, 0);
    x.output(same, true);
    due("both SOURCES are the flipped one", x.flip(0, 0, 0), 0);
    int not = x.node(INVERTER, 0, NONE);
    x.output(not, true);
    due("who takes it", x.flip(0, 0, 0), 1);
    due("who does not", x.flip(0, same, 0), 1);
    inputs(x, 1, 1, 1);
    due("1 becomes 0", x.flip(0, 0, 0), 1);
    int and = x.node(AND, 0, not);
    x.output(not, false);
    x.output(and, true);
    due("a flipped gate beside what it takes", x.flip(0, not, 0), 1);
    due("a flipped SOURCE of both", x.flip(0, 0, 0), 0);
  }

  private static void onTheSpot() {
    Due.says("(of a STORE at the TICK's beginning, on the spot: it has that bit then; of others when it is worked out)");
    ThriceNets x = withStores(2);
    x.feed(1, 0);
    x.output(0, true);
    x.ticks(2);
    due("a STORE that keeps itself", x.flip(0, 0, 0), 3);
    due("in the last TICK", x.flip(1, 0, 0), 3);
    x.output(0, false);
    due("it has that bit then: told by none", x.flip(0, 0, 0), 2);
    due("a STORE that takes from another", x.flip(1, 1, 0), 0);
    x.output(1, true);
    due("which takes it in that TICK", x.flip(0, 0, 0), 3);
    due("told on the spot, and gone", x.flip(1, 1, 0), 1);
    ThriceNets y = withStores(1);
    int gate = y.node(INVERTER, 0, NONE);
    y.output(gate, true);
    y.ticks(1);
    due("a gate takes the flipped STORE", y.flip(0, 0, 0), 3);
    due("a flipped gate does not flip the STORE", y.flip(0, gate, 0), 1);
    y.feed(0, gate);
    due("but it takes that", y.flip(0, gate, 0), 3);
  }

  private static void seen() {
    Due.says("A RUN with FLIPS is SEEN, if in some TICK some OUTPUT tells another bit than in the PLAIN NET");
    for (int node = 0; node < 24; node += 23) {
      for (int t = 1; t <= 16; t += 15) {
        ThriceNets x = withInputs(24);
        x.ticks(t);
        due("no OUTPUT", x.flip(0, node, 0), 0);
        x.output(node, true);
        due("the first TICK, NODE " + node, x.flip(0, node, 0), 1);
        due("the last TICK, NODE " + node, x.flip(t - 1, node, 0), 1);
        due("another NODE", x.flip(0, 23 - node, 0), 0);
        due("by either FLIP", x.flips(0, 23 - node, 0, t - 1, node, 0), 1);
        inputs(x, -1);
        due("0 for 1", x.flip(0, node, 0), 1);
        x.output(node, false);
        due("no OUTPUT any more", x.flip(0, node, 0), 0);
      }
    }
    ThriceNets y = withStores(1);
    y.output(0, true);
    due("for some TICKS, and then undone", y.flips(0, 0, 0, 7, 0, 0), 1);
  }

  private static void lingers() {
    Due.says("it LINGERS, if behind the last TICK some COPY of a STORE has another bit than that STORE in the PLAIN NET.");
    for (int t = 1; t <= 16; t += 15) {
      ThriceNets x = withStores(24);
      x.ticks(t);
      due("the first STORE", x.flip(0, 0, 0), 2);
      due("the last STORE", x.flip(t - 1, 23, 0), 2);
      x.thrice(23, true);
      for (int c = 0; c < 3; c++) {
        due("COPY " + c + " alone", x.flip(t - 1, 23, c), 2);
      }
      due("two COPIES", x.flips(0, 23, 0, t - 1, 23, 2), 2);
    }
    ThriceNets row = withInputs(1);
    for (int node = 1; node <= 3; node++) {
      store(row);
      row.feed(node, node - 1);
    }
    for (int tick = 0; tick < 8; tick++) {
      due("over three STORES, from TICK " + tick, row.flip(tick, 0, 0), tick >= 5 ? 2 : 0);
    }
    row.ticks(16);
    int[] items = new int[16];
    items[15] = 1;
    inputs(row, items);
    due("a STORE that should have 1", row.flip(15, 0, 0), 2);
    due("and one FLIP before it", row.flip(12, 0, 0), 0);
    ThriceNets none = oneOfEachKind();
    due("no STORE takes it", none.flip(7, 0, 0), 0);
    ThriceNets back = withStores(1);
    due("undone in the last TICK", back.flips(0, 0, 0, 7, 0, 0), 0);
  }
}
