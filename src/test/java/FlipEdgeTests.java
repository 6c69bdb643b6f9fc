/** The sentences about flips (promises 12 to 17) that name a boundary, each with a test of its own. */
public final class FlipEdgeTests extends TestBase {
  private FlipEdgeTests() {
  }

  public static void main(String[] args) {
    flipAnswers();
    flipRefusals();
    flipsAnswers();
    flipsRefusals();
    sameTwice();
    manyAnswers();
    manyOfAll();
    manyBelowSpan();
    manyRefusals();
    firstAnswers();
    firstByOrder();
    maskedAnswers();
    maskedBelowSpan();
    maskedRefusals();
    pairsAnswers();
    pairsOfUnlike();
    pairsRefusals();
    Due.end("FlipEdgeTests");
  }

  /** INPUT 0, a STORE that takes it, a STORE that keeps itself. */
  private static ThriceNets passing() {
    ThriceNets x = withInputs(1);
    x.feed(store(x), 0);
    store(x);
    return x;
  }

  private static void flipAnswers() {
    Due.says("A RUN with one FLIP (its TICK below T): 0; 1 SEEN, 2 LINGERS, 3 both. BAD.");
    ThriceNets x = passing();
    due("neither", x.flip(0, 0, 0), 0);
    due("LINGERS", x.flip(7, 0, 0), 2);
    x.output(1, true);
    due("SEEN", x.flip(0, 0, 0), 1);
    due("LINGERS, too late to be SEEN", x.flip(7, 0, 0), 2);
    x.output(0, true);
    due("both", x.flip(7, 0, 0), 3);
    due("once more", x.flip(7, 0, 0), 3);
    due("and SEEN alone again", x.flip(6, 0, 0), 1);
  }

  private static void flipRefusals() {
    Due.says("`int flip(int tick, int node, int c)`");
    due("in the empty net", new ThriceNets().flip(0, 0, 0), BAD);
    ThriceNets x = withInputs(24);
    x.thrice(23, true);
    int[] noNode = {LEAST, -2, -1, 24, 25, MOST};
    for (int node : noNode) {
      due("NODE " + node, x.flip(0, node, 0), BAD);
    }
    int[] noCopy = {LEAST, -2, -1, 3, 4, MOST};
    for (int c : noCopy) {
      due("COPY " + c + " of a THRICE NODE", x.flip(0, 23, c), BAD);
      due("COPY " + c + " of a SINGLE NODE", x.flip(0, 22, c), BAD);
    }
    due("COPY 1 of a SINGLE NODE", x.flip(0, 22, 1), BAD);
    due("COPY 2 of a THRICE NODE", x.flip(0, 23, 2), 0);
    for (int t = 1; t <= 16; t += 5) {
      x.ticks(t);
      int[] noTick = {LEAST, -2, -1, t, t + 1, MOST};
      for (int tick : noTick) {
        due("TICK " + tick + ", T " + t, x.flip(tick, 0, 0), BAD);
      }
      due("TICK 0, T " + t, x.flip(0, 0, 0), 0);
      due("the last TICK, T " + t, x.flip(t - 1, 23, 2), 0);
    }
  }

  private static void flipsAnswers() {
    Due.says("A RUN with two FLIPS: as flip().");
    ThriceNets x = passing();
    x.output(0, true);
    due("neither: undone in the next TICK", x.flips(0, 2, 0, 1, 2, 0), 0);
    due("SEEN by one", x.flips(0, 0, 0, 1, 1, 0), 1);
    due("LINGERS by one", x.flips(0, 1, 0, 0, 2, 0), 2);
    due("both, by one each", x.flips(0, 0, 0, 7, 2, 0), 3);
    due("both, the other way about", x.flips(7, 2, 0, 0, 0, 0), 3);
    due("both by both", x.flips(7, 0, 0, 7, 2, 0), 3);
    x.thrice(0, true);
    due("two that are SEEN together alone", x.flips(0, 0, 0, 0, 0, 2), 1);
    due("one of them", x.flip(0, 0, 0) + x.flip(0, 0, 2), 0);
  }

  private static void flipsRefusals() {
    Due.says("`int flips(int tick, int node, int c, int otherTick, int otherNode, int otherC)`");
    due("in the empty net", new ThriceNets().flips(0, 0, 0, 1, 0, 0), BAD);
    ThriceNets x = withInputs(24);
    x.thrice(23, true);
    x.ticks(5);
    due("the first and the last", x.flips(0, 0, 0, 4, 23, 2), 0);
    due("the last and the first", x.flips(4, 23, 2, 0, 0, 0), 0);
    int[] noTick = {LEAST, -2, -1, 5, 6, 15, 16, MOST};
    for (int tick : noTick) {
      due("first TICK " + tick, x.flips(tick, 0, 0, 0, 23, 0), BAD);
      due("second TICK " + tick, x.flips(0, 0, 0, tick, 23, 0), BAD);
    }
    int[] noNode = {LEAST, -2, -1, 24, 25, MOST};
    for (int node : noNode) {
      due("first NODE " + node, x.flips(0, node, 0, 0, 23, 0), BAD);
      due("second NODE " + node, x.flips(0, 23, 0, 0, node, 0), BAD);
    }
    int[] noCopy = {LEAST, -2, -1, 3, 4, MOST};
    for (int c : noCopy) {
      due("first COPY " + c, x.flips(0, 23, c, 0, 22, 0), BAD);
      due("second COPY " + c, x.flips(0, 22, 0, 0, 23, c), BAD);
    }
    due("first COPY of a SINGLE NODE", x.flips(0, 22, 1, 0, 23, 0), BAD);
    due("second COPY of a SINGLE NODE", x.flips(0, 23, 0, 0, 22, 1), BAD);
    due("both are none", x.flips(5, 24, 3, -1, -1, -1), BAD);
  }

  private static void sameTwice() {
    Due.says("BAD: also the same twice.");
    ThriceNets x = withStores(24);
    allThrice(x);
    x.ticks(16);
    for (int tick = 0; tick < 16; tick += 15) {
      for (int node = 0; node < 24; node += 23) {
        for (int c = 0; c < 3; c++) {
          due("the same", x.flips(tick, node, c, tick, node, c), BAD);
          due("another TICK", x.flips(tick, node, c, 15 - tick, node, c), 0);
          due("another NODE", x.flips(tick, node, c, tick, 23 - node, c), 2);
          due("another COPY", x.flips(tick, node, c, tick, node, (c + 1) % 3), 2);
        }
      }
    }
    ThriceNets y = withInputs(1);
    due("the same of a SINGLE one", y.flips(0, 0, 0, 0, 0, 0), BAD);
    due("the same that is none", y.flips(8, 0, 0, 8, 0, 0), BAD);
  }

  private static void manyAnswers() {
    Due.says("How many FLIPS (of all TICKS below T, NODES, COPIES) give just this (0 to 3) by flip(). BAD.");
    for (int what = 0; what < 4; what++) {
      due("in the empty net: " + what, new ThriceNets().many(what), 0);
    }
    ThriceNets x = passing();
    // INPUT 0: nothing, but LINGERS in the last TICK; the one STORE nothing, the other LINGERS.
    due("neither", x.many(0), 7 + 8);
    due("SEEN", x.many(1), 0);
    due("LINGERS", x.many(2), 1 + 8);
    due("both", x.many(3), 0);
    x.output(0, true);
    x.output(2, true);
    due("neither, with OUTPUTS", x.many(0), 8);
    due("SEEN, with OUTPUTS", x.many(1), 7);
    due("LINGERS, with OUTPUTS", x.many(2), 0);
    due("both, with OUTPUTS", x.many(3), 1 + 8);
    x.thrice(2, true);
    due("COPIES count each", x.many(2), 3 * 8);
    due("both, one less", x.many(3), 1);
    x.ticks(1);
    due("T 1", x.many(0) * 1000 + x.many(1) * 100 + x.many(2) * 10 + x.many(3), 1031);
  }

  private static void manyOfAll() {
    Due.says("(of all TICKS below T, NODES, COPIES)");
    // Runs go in heaps: as many FLIPS as one heap holds, one less, one more, and two heaps.
    int[][] heaps = {{7, 9}, {8, 8}, {13, 5}, {4, 16}, {16, 8}, {1, 1}, {1, 24}, {16, 1}, {16, 24}};
    for (int[] heap : heaps) {
      ThriceNets x = withInputs(heap[1]);
      x.ticks(heap[0]);
      for (int node = 0; node < heap[1]; node++) {
        x.output(node, true);
      }
      String of = heap[0] + " TICKS of " + heap[1] + " NODES";
      due(of + ", SEEN", x.many(1), heap[0] * heap[1]);
      due(of + ", neither", x.many(0), 0);
      allThrice(x);
      due(of + " THRICE, SEEN", x.many(1), 0);
      due(of + " THRICE, neither", x.many(0), 3 * heap[0] * heap[1]);
    }
  }

  /** INPUTS, then as many STORES that are OUTPUTS, each of which takes one of them. */
  private static ThriceNets takingInputs(int n) {
    ThriceNets x = withInputs(n);
    for (int node = n; node < 2 * n; node++) {
      store(x);
      x.feed(node, node - n);
      x.output(node, true);
    }
    return x;
  }

  private static void manyBelowSpan() {
    Due.says("How many FLIPS (of all TICKS below T");
    for (int n = 1; n <= 12; n += 11) {
      for (int t = 1; t <= 16; t += 3) {
        ThriceNets x = takingInputs(n);
        x.ticks(t);
        // An INPUT's FLIP is told a TICK later: in the last TICK it can't be SEEN any more.
        String of = n + " INPUTS, T " + t;
        due("SEEN of " + of, x.many(1), n * (2 * t - 1));
        due("LINGER of " + of, x.many(2), n);
        due("neither or both of " + of, x.many(0) + x.many(3), 0);
      }
    }
  }

  private static void manyRefusals() {
    Due.says("`int many(int what)`");
    int[] none = {LEAST, -2, -1, 4, 5, MOST};
    for (int what : none) {
      due("many(" + what + ")", passing().many(what), BAD);
      due("many(" + what + ") of the empty net", new ThriceNets().many(what), BAD);
    }
  }

  private static void firstAnswers() {
    Due.says("10000 times the TICK, 10 times the NODE, and the COPY; NONE.");
    due("in the empty net", new ThriceNets().first(), NONE);
    due("no OUTPUT", withStores(24).first(), NONE);
    for (int node = 0; node < 24; node++) {
      ThriceNets x = withInputs(24);
      x.output(node, true);
      due("NODE " + node, x.first(), 10 * node);
      x.thrice(node, true);
      due("NODE " + node + " THRICE", x.first(), NONE);
    }
    // NODE 22 is told by an AND whose other SOURCE has 1 in one TICK alone.
    for (int tick = 0; tick < 16; tick++) {
      ThriceNets x = withInputs(23);
      x.node(AND, 22, 0);
      allThrice(x);
      x.thrice(22, false);
      x.output(23, true);
      x.sheet(0, BYTES, 16);
      x.put(0, BYTES, tick, 1);
      x.ticks(16);
      due("TICK " + tick, x.first(), 10000 * tick + 220);
      if (tick > 0) {
        x.ticks(tick);
        due("below T there is none", x.first(), NONE);
      }
    }
  }

  private static void firstByOrder() {
    Due.says("The first FLIP that is SEEN, by TICKS, then NODES, then COPIES");
    ThriceNets x = withInputs(4);
    int late = x.node(AND, 2, 0);
    int early = x.node(AND, 3, 1);
    x.output(late, true);
    x.output(early, true);
    allThrice(x);
    x.thrice(2, false);
    x.thrice(3, false);
    inputs(x, 0, 2, 1);
    due("the lesser TICK of the greater NODE", x.first(), 10030);
    inputs(x, 0, 3, 1);
    due("of one TICK the lesser NODE", x.first(), 10020);
    x.thrice(late, false);
    due("in TICK 0 the gate itself", x.first(), 40);
    x.thrice(early, false);
    due("the lesser of both", x.first(), 40);
    ThriceNets y = withStores(2);
    y.output(1, true);
    due("LINGERS alone is not SEEN", y.first(), 10);
    ThriceNets taking = takingInputs(12);
    allThrice(taking);
    taking.thrice(11, false);
    due("SEEN a TICK later", taking.first(), 110);
    taking.ticks(1);
    due("behind the last TICK it is not", taking.first(), NONE);
  }

  private static void maskedAnswers() {
    Due.says("Whether no FLIP of a NODE's COPIES in any TICK below T is SEEN: 1, 0. BAD.");
    ThriceNets x = withInputs(24);
    x.output(0, true);
    x.output(23, true);
    for (int node = 0; node < 24; node++) {
      due("NODE " + node, x.masked(node), node == 0 || node == 23 ? 0 : 1);
    }
    allThrice(x);
    due("THRICE, the first", x.masked(0), 1);
    due("THRICE, the last", x.masked(23), 1);
    due("LINGERS is not SEEN", withStores(1).masked(0), 1);
    ThriceNets y = withStores(1);
    y.output(0, true);
    due("SEEN that LINGERS", y.masked(0), 0);
  }

  private static void maskedBelowSpan() {
    Due.says("in any TICK below T is SEEN");
    ThriceNets x = withInputs(2);
    x.output(x.node(AND, 0, 1), true);
    for (int tick = 0; tick < 16; tick++) {
      x.sheet(0, BYTES, 16);
      x.put(0, BYTES, tick, 2);
      x.ticks(tick + 1);
      due("in the last TICK alone, " + tick, x.masked(0), 0);
      if (tick > 0) {
        x.ticks(tick);
        due("behind the last TICK, " + tick, x.masked(0), 1);
      }
    }
    x.lose(0);
    due("in none", x.masked(0), 1);
    ThriceNets taking = takingInputs(1);
    taking.ticks(1);
    due("SEEN behind the last TICK alone", taking.masked(0), 1);
    taking.ticks(2);
    due("SEEN in it", taking.masked(0), 0);
  }

  private static void maskedRefusals() {
    Due.says("`int masked(int node)`");
    due("in the empty net", new ThriceNets().masked(0), BAD);
    ThriceNets x = withInputs(24);
    ThriceNets y = withInputs(1);
    int[] none = {LEAST, -2, -1, 24, 25, MOST};
    for (int node : none) {
      due("NODE " + node + " of 24", x.masked(node), BAD);
      due("NODE " + node + " of one", y.masked(node), BAD);
    }
    due("NODE 1 of one", y.masked(1), BAD);
    due("the last", x.masked(23), 1);
  }

  private static void pairsAnswers() {
    Due.says("How many pairs of FLIPS in one TICK (below T)");
    for (int tick = 0; tick < 8; tick++) {
      due("in the empty net, TICK " + tick, new ThriceNets().pairs(tick), 0);
    }
    for (int n = 1; n <= 24; n++) {
      ThriceNets x = withInputs(n);
      for (int node = 0; node < n; node++) {
        x.output(node, true);
      }
      due(n + " SINGLE OUTPUTS", x.pairs(0), n * (n - 1) / 2);
    }
    // A SINGLE INPUT 0, an INPUT 1 and an AND of both that are THRICE: in TICK 3 INPUT 1 has 1.
    ThriceNets y = withInputs(2);
    int gate = y.node(AND, 0, 1);
    y.output(gate, true);
    y.thrice(1, true);
    y.thrice(gate, true);
    inputs(y, 0, 0, 0, 2);
    due("TICK 2: two COPIES of the AND", y.pairs(2), 3);
    due("TICK 3: INPUT 0 with any other COPY, too", y.pairs(3), 3 + 6);
    y.ticks(4);
    due("TICK 3, the last", y.pairs(3), 9);
    for (int n = 2; n <= 12; n += 5) {
      ThriceNets taking = takingInputs(n);
      for (int t = 1; t <= 15; t += 7) {
        int all = 2 * n * (2 * n - 1) / 2;
        taking.ticks(t);
        due("the last TICK, T " + t + ": all but two INPUTS", taking.pairs(t - 1), all - n * (n - 1) / 2);
        taking.ticks(t + 1);
        due("the last but one, T " + t + ": all", taking.pairs(t - 1), all);
      }
    }
  }

  private static void pairsOfUnlike() {
    Due.says("of unlike NODES or COPIES are SEEN.");
    ThriceNets x = withInputs(1);
    x.output(0, true);
    due("one SINGLE NODE with itself is none", x.pairs(0), 0);
    x.thrice(0, true);
    due("one THRICE NODE", x.pairs(0), 3);
    x.output(input(x), true);
    due("a THRICE and a SINGLE one", x.pairs(0), 3 + 3);
    x.thrice(1, true);
    due("two THRICE ones", x.pairs(0), 3 + 3);
    x.output(0, false);
    due("one OUTPUT of two THRICE ones", x.pairs(0), 3);
    ThriceNets full = withInputs(24);
    allThrice(full);
    for (int node = 0; node < 24; node++) {
      full.output(node, true);
    }
    due("24 THRICE ones", full.pairs(7), 24 * 3);
    full.thrice(23, false);
    due("the last SINGLE", full.pairs(7), 23 * 3 + 23 * 3);
    full.thrice(23, true);
    full.thrice(0, false);
    due("the first SINGLE", full.pairs(7), 23 * 3 + 23 * 3);
    ThriceNets held = withStores(2);
    due("LINGERS is not SEEN", held.pairs(0), 0);
    held.output(0, true);
    due("SEEN that LINGERS", held.pairs(0), 1);
    ThriceNets none = withInputs(2);
    none.output(none.node(XOR, 0, 1), true);
    due("pairs that undo one another", none.pairs(0), 0);
  }

  private static void pairsRefusals() {
    Due.says("`int pairs(int tick)`");
    ThriceNets x = withInputs(2);
    x.output(0, true);
    for (int t = 1; t <= 16; t += 5) {
      x.ticks(t);
      int[] none = {LEAST, -2, -1, t, t + 1, MOST};
      for (int tick : none) {
        due("TICK " + tick + ", T " + t, x.pairs(tick), BAD);
      }
      due("the first, T " + t, x.pairs(0), 1);
      due("the last, T " + t, x.pairs(t - 1), 1);
    }
    due("TICK 8 of the empty net", new ThriceNets().pairs(8), BAD);
    due("TICK -1 of the empty net", new ThriceNets().pairs(-1), BAD);
  }
}
