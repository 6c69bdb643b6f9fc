/**
 * For each promise of the document what it says of ordinary inputs, of its edges and of wrong
 * inputs, with answers worked out by hand.
 */
public final class PromiseTests extends TestBase {
  private PromiseTests() {
  }

  public static void main(String[] args) {
    promise1New();
    promise2Node();
    promise3Feed();
    promise4Output();
    promise5Price();
    promise6About();
    promise7Thrice();
    promise8Vote();
    promise9Ticks();
    promise10Plain();
    promise10Inputs();
    promise11Copy();
    promise12Flip();
    promise12Majorities();
    promise13Flips();
    promise14Many();
    promise15First();
    promise16Masked();
    promise17Pairs();
    promise18Leads();
    promise19Breaks();
    promise20Best();
    promise21Harden();
    promise22Voter();
    promise23Cost();
    promise24Slow();
    promise25Sheet();
    promise26Lose();
    promise27Put();
    promise28Get();
    promise29Move();
    promise30Count();
    promise31Digest();
    refusalsChangeNothing();
    Due.end("PromiseTests");
  }

  private static void promise1New() {
    ThriceNets x = new ThriceNets();
    int[] counts = {0, 0, 0, 0, 0, 0, 0, 8, 1};
    for (int what = 0; what < counts.length; what++) {
      due("1 new: count(" + what + ")", x.count(what), counts[what]);
    }
    for (int s = 0; s < 4; s++) {
      due("1 new: lose(" + s + ")", x.lose(s), NULL);
    }
    due("1 new: about(0, 0)", x.about(0, 0), BAD);
    due("1 new: first()", x.first(), NONE);
    due("1 new: many(0)", x.many(0), 0);
    due("1 new: pairs(0)", x.pairs(0), 0);
    due("1 new: best()", x.best(), 0);
    due("1 new: breaks(0)", x.breaks(0), 1);
    due("1 new: breaks(1)", x.breaks(1), BAD);
    due("1 new: harden()", x.harden(), 0);
    due("1 new: cost()", x.cost(), 0);
    due("1 new: slow()", x.slow(), 0);
  }

  private static void promise2Node() {
    ThriceNets x = new ThriceNets();
    due("2 a NOT without a node", x.node(INVERTER, 0, NONE), BAD);
    due("2 an INPUT", x.node(INPUT, NONE, NONE), 0);
    due("2 an INPUT with a source", x.node(INPUT, 0, NONE), BAD);
    due("2 an INPUT with a second source", x.node(INPUT, NONE, 0), BAD);
    due("2 a NOT of itself", x.node(INVERTER, 1, NONE), BAD);
    due("2 a NOT with two sources", x.node(INVERTER, 0, 0), BAD);
    due("2 a NOT with none", x.node(INVERTER, NONE, NONE), BAD);
    due("2 a NOT with the second alone", x.node(INVERTER, NONE, 0), BAD);
    due("2 a NOT", x.node(INVERTER, 0, NONE), 1);
    int next = 2;
    for (int kind = AND; kind <= XOR; kind++) {
      due("2 a gate with one source", x.node(kind, 0, NONE), BAD);
      due("2 a gate with the second alone", x.node(kind, NONE, 0), BAD);
      due("2 a gate of itself", x.node(kind, next, 0), BAD);
      due("2 a gate of itself, second", x.node(kind, 0, next), BAD);
      due("2 a gate of one source twice", x.node(kind, 0, 0), next++);
      due("2 a gate", x.node(kind, 0, next - 1), next++);
    }
    due("2 a STORE with a source", x.node(STORE, 0, NONE), BAD);
    due("2 a STORE with a second source", x.node(STORE, NONE, 0), BAD);
    due("2 a STORE", x.node(STORE, NONE, NONE), next++);
    due("2 kind 6", x.node(6, NONE, NONE), BAD);
    due("2 kind -1", x.node(-1, NONE, NONE), BAD);
    due("2 kind 6 with sources", x.node(6, 0, 1), BAD);
    due("2 kind -1 with sources", x.node(-1, 0, 1), BAD);
    for (int far : FAR) {
      due("2 far kind", x.node(far, NONE, NONE), BAD);
      due("2 far source", x.node(AND, far, 0), BAD);
      due("2 far second source", x.node(AND, 0, far), BAD);
      due("2 far source of a STORE", x.node(STORE, far, NONE), BAD);
    }
    due("2 count(0)", x.count(0), next);
    for (; next < 24; next++) {
      due("2 node " + next, x.node(OR, next - 1, 0), next);
    }
    due("2 a 25th", x.node(INPUT, NONE, NONE), FULL);
    due("2 a 25th that is BAD", x.node(AND, 24, 0), BAD);
    due("2 a 25th of kind 6", x.node(6, NONE, NONE), BAD);
    due("2 a 25th gate", x.node(AND, 23, 0), FULL);
    due("2 count(0) when full", x.count(0), 24);
  }

  private static void promise3Feed() {
    ThriceNets x = new ThriceNets();
    input(x);
    store(x);
    store(x);
    x.node(AND, 0, 1);
    due("3 at first itself", x.feed(1, 3), 1);
    due("3 what it was", x.feed(1, 2), 3);
    due("3 itself again", x.feed(1, 1), 2);
    due("3 an INPUT as source", x.feed(1, 0), 1);
    due("3 the other STORE stands", x.about(2, 1), 2);
    due("3 not a STORE", x.feed(0, 1), BAD);
    due("3 a gate", x.feed(3, 1), BAD);
    due("3 no such node", x.feed(4, 1), BAD);
    due("3 below 0", x.feed(-1, 1), BAD);
    due("3 no such source", x.feed(1, 4), BAD);
    due("3 source NONE", x.feed(1, NONE), BAD);
    due("3 it stands", x.about(1, 1), 0);
  }

  private static void promise4Output() {
    ThriceNets x = new ThriceNets();
    input(x);
    store(x);
    due("4 output", x.output(0, true), 1);
    due("4 again", x.output(0, true), 1);
    due("4 about 3", x.about(0, 3), 1);
    due("4 the other", x.about(1, 3), 0);
    due("4 not", x.output(0, false), 1);
    due("4 not again", x.output(0, false), 1);
    due("4 about 3", x.about(0, 3), 0);
    due("4 no such", x.output(2, true), BAD);
    due("4 below 0", x.output(-1, false), BAD);
    due("4 count(3)", x.count(3), 0);
  }

  private static void promise5Price() {
    ThriceNets x = new ThriceNets();
    input(x);
    input(x);
    due("5 at first 1", x.price(0, 1000), 1);
    due("5 what it was", x.price(0, 0), 1000);
    due("5 above", x.price(0, 1001), BAD);
    due("5 below", x.price(0, -1), BAD);
    due("5 it stands", x.price(0, 7), 0);
    due("5 no such", x.price(2, 1), BAD);
    due("5 node below 0", x.price(-1, 1), BAD);
    due("5 the other", x.about(1, 6), 1);
  }

  private static void promise6About() {
    ThriceNets x = new ThriceNets();
    input(x);
    store(x);
    x.node(XOR, 1, 0);
    x.node(INVERTER, 2, NONE);
    input(x);
    store(x);
    x.feed(5, 3);
    x.output(5, true);
    x.price(5, 30);
    x.thrice(5, true);
    x.vote(5, true);
    int[][] all = {
      {INPUT, NONE, NONE, 0, 0, 0, 1, 0},
      {STORE, 1, NONE, 0, 0, 0, 1, 0},
      {XOR, 1, 0, 0, 0, 0, 1, NONE},
      {INVERTER, 2, NONE, 0, 0, 0, 1, NONE},
      {INPUT, NONE, NONE, 0, 0, 0, 1, 1},
      {STORE, 3, NONE, 1, 1, 1, 30, 1},
    };
    for (int node = 0; node < all.length; node++) {
      for (int what = 0; what < 8; what++) {
        due("6 about(" + node + ", " + what + ")", x.about(node, what), all[node][what]);
      }
    }
    due("6 what 8", x.about(0, 8), BAD);
    due("6 what -1", x.about(0, -1), BAD);
    due("6 no such", x.about(6, 0), BAD);
    due("6 below 0", x.about(-1, 0), BAD);
    for (int far : FAR) {
      due("6 far", x.about(far, 0), BAD);
      due("6 far what", x.about(0, far), BAD);
    }
  }

  private static void promise7Thrice() {
    ThriceNets x = withStores(2);
    due("7 SINGLE already", x.thrice(0, false), 0);
    due("7 THRICE", x.thrice(0, true), 1);
    due("7 THRICE already", x.thrice(0, true), 0);
    due("7 voted", x.vote(0, true), 1);
    due("7 already: still VOTED", x.thrice(0, true) + 10 * x.about(0, 5), 10);
    due("7 SINGLE", x.thrice(0, false), 1);
    due("7 not VOTED then", x.about(0, 5), 0);
    due("7 THRICE again", x.thrice(0, true), 1);
    due("7 still not VOTED", x.about(0, 5), 0);
    due("7 the other", x.about(1, 4), 0);
    due("7 no such", x.thrice(2, true), BAD);
    due("7 below 0", x.thrice(-1, true), BAD);
  }

  private static void promise8Vote() {
    ThriceNets x = withStores(1);
    input(x);
    x.thrice(1, true);
    due("8 SINGLE", x.vote(0, true), NOT);
    due("8 SINGLE, not", x.vote(0, false), NOT);
    x.thrice(0, true);
    due("8 not already", x.vote(0, false), 0);
    due("8 VOTED", x.vote(0, true), 1);
    due("8 VOTED already", x.vote(0, true), 0);
    due("8 about 5", x.about(0, 5), 1);
    due("8 not VOTED", x.vote(0, false), 1);
    due("8 not a STORE", x.vote(1, true), BAD);
    due("8 no such", x.vote(2, true), BAD);
    due("8 below 0", x.vote(-1, true), BAD);
  }

  private static void promise9Ticks() {
    ThriceNets x = new ThriceNets();
    due("9 at first 8", x.ticks(16), 8);
    due("9 above", x.ticks(17), BAD);
    due("9 none", x.ticks(0), BAD);
    due("9 below", x.ticks(-1), BAD);
    due("9 what it was", x.ticks(1), 16);
    due("9 count(7)", x.count(7), 1);
    for (int far : FAR) {
      due("9 far", x.ticks(far), BAD);
    }
    due("9 it stands", x.ticks(8), 1);
  }

  private static void promise10Plain() {
    ThriceNets x = new ThriceNets();
    input(x);
    input(x);
    x.node(INVERTER, 0, NONE);
    x.node(AND, 0, 1);
    x.node(OR, 0, 1);
    x.node(XOR, 0, 1);
    inputs(x, 0, 1, 2, 3);
    int[][] truth = {{0, 1, 0, 1}, {0, 0, 1, 1}, {1, 0, 1, 0}, {0, 0, 0, 1}, {0, 1, 1, 1}, {0, 1, 1, 0}};
    for (int node = 0; node < 6; node++) {
      for (int tick = 0; tick < 4; tick++) {
        due("10 plain(" + node + ", " + tick + ")", x.plain(node, tick), truth[node][tick]);
      }
    }
    // Two stores that hand their bits to one another, at once.
    int one = store(x);
    int other = store(x);
    x.feed(other, one);
    x.feed(one, 0);
    inputs(x, 1, 0, 0);
    int[] first = {0, 1, 0, 0};
    int[] second = {0, 0, 1, 0};
    for (int tick = 0; tick < 4; tick++) {
      due("10 first store, " + tick, x.plain(one, tick), first[tick]);
      due("10 second store, " + tick, x.plain(other, tick), second[tick]);
    }
    x.ticks(1);
    due("10 beyond T", x.plain(other, 2), 1);
    due("10 tick 15", x.plain(2, 15), 1);
    due("10 tick 16", x.plain(0, 16), BAD);
    due("10 tick -1", x.plain(0, -1), BAD);
    due("10 no such", x.plain(8, 0), BAD);
    due("10 below 0", x.plain(-1, 0), BAD);
  }

  private static void promise10Inputs() {
    ThriceNets x = new ThriceNets();
    for (int k = 0; k < 24; k++) {
      input(x);
    }
    due("10 lost", x.plain(0, 0), 0);
    x.sheet(0, 0, 2);
    x.put(0, 0, 0, 0x82);
    due("10 byte, bit 0", x.plain(0, 0), 0);
    due("10 byte, bit 1", x.plain(1, 0), 1);
    due("10 byte, bit 7", x.plain(7, 0), 1);
    due("10 byte below 0, as it stands", x.plain(23, 0), 1);
    due("10 no such item", x.plain(1, 2), 0);
    x.sheet(0, 1, 2);
    x.put(0, 1, 1, 0x4001);
    due("10 short, bit 14", x.plain(14, 1), 1);
    due("10 short, bit 15", x.plain(15, 1), 0);
    due("10 short above 0, bit 16", x.plain(16, 1), 0);
    x.sheet(0, 2, 16);
    x.put(0, 2, 15, 1 << 23);
    due("10 int, bit 23", x.plain(23, 15), 1);
    due("10 int, bit 22", x.plain(22, 15), 0);
    x.sheet(1, 2, 16);
    x.put(1, 2, 0, -1);
    due("10 SHEET 1 is not asked", x.plain(0, 0), 0);
    due("10 no FINDING", x.count(6), 0);
    x.lose(0);
    due("10 lost again", x.plain(23, 15), 0);
    x.sheet(0, 2, 15);
    due("10 TICK 15 of 15 items", x.plain(23, 15), 0);
    ThriceNets y = withStores(1);
    input(y);
    inputs(y, 1);
    due("10 INPUTS are numbered by themselves", y.plain(1, 0), 1);
  }

  private static void promise11Copy() {
    ThriceNets x = new ThriceNets();
    input(x);
    store(x);
    x.feed(1, 0);
    x.thrice(1, true);
    inputs(x, 1, 0, 1);
    for (int c = 0; c < 3; c++) {
      due("11 copy in tick 0", x.copy(1, c, 0), 0);
      due("11 copy in tick 1", x.copy(1, c, 1), 1);
      due("11 copy in tick 2", x.copy(1, c, 2), 0);
    }
    due("11 the one COPY", x.copy(0, 0, 2), 1);
    due("11 no such COPY", x.copy(0, 1, 0), BAD);
    due("11 COPY 3", x.copy(1, 3, 0), BAD);
    due("11 COPY -1", x.copy(1, -1, 0), BAD);
    due("11 tick 15", x.copy(1, 0, 15), 0);
    due("11 tick 16", x.copy(1, 0, 16), BAD);
    due("11 tick -1", x.copy(1, 0, -1), BAD);
    due("11 no such", x.copy(2, 0, 0), BAD);
    due("11 below 0", x.copy(-1, 0, 0), BAD);
  }

  private static void promise12Flip() {
    ThriceNets x = new ThriceNets();
    int in = input(x);
    int held = store(x);
    int passed = store(x);
    x.feed(passed, in);
    x.ticks(4);
    due("12 no OUTPUT, no STORE with it any more", x.flip(0, in, 0), 0);
    due("12 LINGERS: taken in the last TICK", x.flip(3, in, 0), 2);
    due("12 a STORE that keeps it", x.flip(0, held, 0), 2);
    due("12 a STORE that takes another bit", x.flip(3, passed, 0), 0);
    x.output(passed, true);
    due("12 SEEN on the spot", x.flip(3, passed, 0), 1);
    due("12 SEEN a TICK later", x.flip(2, in, 0), 1);
    due("12 too late to be SEEN", x.flip(3, in, 0), 2);
    x.output(in, true);
    due("12 both", x.flip(3, in, 0), 3);
    due("12 TICK T", x.flip(4, in, 0), BAD);
    due("12 TICK -1", x.flip(-1, in, 0), BAD);
    due("12 no such", x.flip(0, 3, 0), BAD);
    due("12 below 0", x.flip(0, -1, 0), BAD);
    due("12 no such COPY", x.flip(0, in, 1), BAD);
    due("12 COPY -1", x.flip(0, in, -1), BAD);
    x.ticks(16);
    inputs(x, 0, 0, 0, 0, 0, 0, 0, 0, 0, 0, 0, 0, 0, 0, 0, 1);
    due("12 16 TICKS, a STORE with 1 behind them", x.flip(14, passed, 0), 1);
    due("12 16 TICKS, in the last", x.flip(15, in, 0), 3);
    x.thrice(in, true);
    due("12 COPY 2", x.flip(0, in, 2), 0);
    due("12 COPY 3", x.flip(0, in, 3), BAD);
  }

  /** Which takes a majority, and which its own copy. */
  private static void promise12Majorities() {
    ThriceNets x = new ThriceNets();
    int in = input(x);
    int gate = x.node(INVERTER, in, NONE);
    int held = store(x);
    x.feed(held, gate);
    x.ticks(2);
    x.thrice(in, true);
    due("12 SINGLE gate of a THRICE source", x.flip(1, in, 0), 0);
    x.thrice(gate, true);
    due("12 SINGLE store of a THRICE gate", x.flip(1, gate, 2), 0);
    due("12 through both", x.flip(1, in, 1), 0);
    x.thrice(held, true);
    due("12 COPY by COPY", x.flip(1, in, 1), 2);
    x.vote(held, true);
    due("12 VOTED", x.flip(1, in, 1), 0);
    due("12 VOTED, flipped itself", x.flip(1, held, 1), 0);
    x.thrice(in, false);
    due("12 a SINGLE source for all COPIES", x.flip(1, in, 0), 2);
    x.output(gate, true);
    due("12 and SEEN", x.flip(1, in, 0), 3);
    due("12 an OUTPUT that is THRICE", x.flip(1, gate, 0), 0);
    x.feed(held, held);
    due("12 VOTED on itself", x.flip(0, held, 0), 0);
    x.vote(held, false);
    due("12 not VOTED on itself", x.flip(0, held, 0), 2);
  }

  private static void promise13Flips() {
    ThriceNets x = new ThriceNets();
    int in = input(x);
    int held = store(x);
    x.thrice(in, true);
    x.output(in, true);
    x.ticks(3);
    due("13 two COPIES in one TICK", x.flips(1, in, 0, 1, in, 2), 1);
    due("13 two COPIES in two TICKS", x.flips(1, in, 0, 2, in, 2), 0);
    due("13 a STORE flipped and flipped back", x.flips(0, held, 0, 2, held, 0), 0);
    due("13 the other way about", x.flips(2, held, 0, 0, held, 0), 0);
    due("13 unlike NODES", x.flips(0, held, 0, 0, in, 0), 2);
    x.output(held, true);
    due("13 both", x.flips(0, held, 0, 0, in, 0), 3);
    due("13 the same twice", x.flips(0, in, 1, 0, in, 1), BAD);
    due("13 first TICK", x.flips(3, in, 0, 0, in, 1), BAD);
    due("13 second TICK", x.flips(0, in, 0, 3, in, 1), BAD);
    due("13 second TICK below 0", x.flips(0, in, 0, -1, in, 1), BAD);
    due("13 first NODE", x.flips(0, 2, 0, 0, in, 1), BAD);
    due("13 second NODE", x.flips(0, in, 0, 0, 2, 0), BAD);
    due("13 first COPY", x.flips(0, held, 1, 0, in, 1), BAD);
    due("13 second COPY", x.flips(0, in, 0, 0, in, 3), BAD);
    due("13 second COPY below 0", x.flips(0, in, 0, 0, in, -1), BAD);
    due("13 far", x.flips(Integer.MIN_VALUE, 0, 0, Integer.MAX_VALUE, 0, 0), BAD);
  }

  private static void promise14Many() {
    ThriceNets x = new ThriceNets();
    int in = input(x);
    int passed = store(x);
    x.feed(passed, in);
    x.output(passed, true);
    x.ticks(4);
    // The store: SEEN in its TICK, 4; the input: SEEN a TICK later, 3, and in the last LINGERS.
    due("14 neither", x.many(0), 0);
    due("14 SEEN", x.many(1), 7);
    due("14 LINGERS", x.many(2), 1);
    due("14 both", x.many(3), 0);
    input(x);
    due("14 one that goes nowhere", x.many(0), 4);
    x.output(in, true);
    due("14 both now", x.many(3), 1);
    due("14 what 4", x.many(4), BAD);
    due("14 what -1", x.many(-1), BAD);
    ThriceNets full = withStores(24);
    for (int node = 0; node < 24; node++) {
      full.thrice(node, true);
    }
    full.ticks(16);
    due("14 all that there can be", full.many(2), 24 * 3 * 16);
    due("14 and no others", full.many(0) + full.many(1) + full.many(3), 0);
    ThriceNets single = withStores(24);
    single.ticks(16);
    due("14 24 SINGLE NODES", single.many(2), 24 * 16);
    single.thrice(1, true);
    single.feed(0, 2);
    due("14 a flip of one NODE is none of the next", single.flip(14, 0, 0), 0);
    due("14 the last NODE in the last TICK", single.flip(15, 23, 0), 2);
  }

  private static void promise15First() {
    ThriceNets x = new ThriceNets();
    for (int k = 0; k < 23; k++) {
      x.thrice(input(x), true);
    }
    int last = input(x);
    due("15 none", x.first(), NONE);
    x.output(last, true);
    due("15 the last NODE", x.first(), 230);
    x.thrice(last, true);
    due("15 THRICE: none", x.first(), NONE);
    x.output(3, true);
    x.thrice(3, false);
    due("15 by NODES", x.first(), 30);
    due("15 no flips but of TICKS below T", x.ticks(1) + x.first(), 38);
    // An OR whose other source has 1 lets no flip through.
    ThriceNets y = new ThriceNets();
    int a = input(y);
    int b = input(y);
    int copy = y.node(OR, a, a);
    int gate = y.node(OR, copy, b);
    y.thrice(gate, true);
    y.thrice(copy, true);
    y.thrice(a, true);
    y.thrice(b, true);
    y.output(gate, true);
    due("15 all THRICE", y.first(), NONE);
    y.thrice(copy, false);
    inputs(y, 2, 2, 3, 2);
    y.ticks(4);
    due("15 by TICKS", y.first(), NONE);
    inputs(y, 2, 2, 0, 2);
    due("15 in TICK 2", y.first(), 20020);
    y.ticks(2);
    due("15 not below T", y.first(), NONE);
  }

  private static void promise16Masked() {
    ThriceNets x = new ThriceNets();
    int a = input(x);
    int b = input(x);
    int gate = x.node(AND, a, b);
    x.output(gate, true);
    x.ticks(2);
    inputs(x, 0, 0, 3);
    due("16 a flip that the other stops", x.masked(a), 1);
    due("16 the gate", x.masked(gate), 0);
    x.ticks(3);
    due("16 not in the last TICK", x.masked(a), 0);
    x.thrice(gate, true);
    due("16 THRICE", x.masked(gate), 1);
    x.output(gate, false);
    due("16 no OUTPUT", x.masked(a), 1);
    due("16 no such", x.masked(3), BAD);
    due("16 below 0", x.masked(-1), BAD);
    ThriceNets y = withStores(1);
    due("16 LINGERS is not SEEN", y.masked(0), 1);
  }

  private static void promise17Pairs() {
    ThriceNets x = new ThriceNets();
    int a = input(x);
    int b = input(x);
    int gate = x.node(XOR, a, b);
    x.output(gate, true);
    x.ticks(2);
    // a with b undo one another, and so does either with the gate.
    due("17 pairs that undo one another", x.pairs(0), 0);
    x.thrice(a, true);
    // A flip of a is masked: two of a are SEEN (3), each of a with b (3), with the gate (3).
    due("17 with masked ones", x.pairs(1), 9);
    due("17 TICK T", x.pairs(2), BAD);
    due("17 TICK -1", x.pairs(-1), BAD);
    ThriceNets y = new ThriceNets();
    for (int k = 0; k < 24; k++) {
      y.output(input(y), true);
    }
    due("17 all SINGLE OUTPUTS", y.pairs(7), 24 * 23 / 2);
    y.harden();
    due("17 all THRICE OUTPUTS", y.pairs(7), 24 * 3);
    y.output(0, false);
    due("17 one OUTPUT less", y.pairs(0), 23 * 3);
    due("17 LINGERS is not SEEN", withStores(3).pairs(0), 0);
    ThriceNets z = withStores(2);
    z.output(0, true);
    z.output(input(z), true);
    due("17 SEEN that LINGER count, too", z.pairs(0), 3);
    due("16 SEEN that LINGERS", z.masked(0), 0);
  }

  private static void promise18Leads() {
    ThriceNets x = new ThriceNets();
    int in = input(x);
    int s0 = store(x);
    int s1 = store(x);
    int s2 = store(x);
    int gate = x.node(AND, in, s0);
    int far = x.node(INVERTER, gate, NONE);
    due("18 itself, at once", x.leads(0, 0), 1);
    due("18 not one another", x.leads(0, 1), 0);
    x.feed(s1, far);
    x.feed(s2, s1);
    x.feed(s0, in);
    due("18 over gates", x.leads(0, 1), 1);
    due("18 not back", x.leads(1, 0), 0);
    due("18 at once", x.leads(1, 2), 1);
    due("18 not over a STORE", x.leads(0, 2), 0);
    due("18 no more itself", x.leads(0, 0), 0);
    int both = x.node(OR, s2, far);
    x.feed(s0, both);
    due("18 by the first source", x.leads(2, 0), 1);
    due("18 by the second source", x.leads(0, 0), 1);
    due("18 no such", x.leads(3, 0), BAD);
    due("18 no such other", x.leads(0, 3), BAD);
    due("18 below 0", x.leads(-1, 0), BAD);
    due("18 other below 0", x.leads(0, -1), BAD);
    ThriceNets y = withStores(24);
    y.feed(0, 23);
    due("18 STORE 23", y.leads(23, 0), 1);
    due("18 not STORE 22", y.leads(22, 0), 0);
    due("18 above 12 STORES all the same", y.leads(23, 23), 1);
  }

  private static void promise19Breaks() {
    ThriceNets x = withStores(4);
    x.feed(0, 3);
    x.feed(1, 0);
    x.feed(2, 1);
    x.feed(3, 2);
    due("19 a ring", x.breaks(0), 0);
    for (int s = 0; s < 4; s++) {
      due("19 any one of it", x.breaks(1 << s), 1);
    }
    due("19 all", x.breaks(15), 1);
    x.feed(0, 0);
    due("19 a row that ends in a loop", x.breaks(14), 0);
    due("19 the loop itself", x.breaks(1), 1);
    x.feed(3, 3);
    due("19 two loops, one broken", x.breaks(1), 0);
    due("19 two loops, both", x.breaks(9), 1);
    ThriceNets row = withStores(4);
    input(row);
    for (int s = 0; s < 4; s++) {
      row.feed(s, s + 1);
    }
    due("19 a row against the numbers, no loop", row.breaks(0), 1);
    due("19 a STORE that is not there", x.breaks(16), BAD);
    due("19 one that is and one that is not", x.breaks(25), BAD);
    due("19 below 0", x.breaks(-1), BAD);
    due("19 the least int", x.breaks(Integer.MIN_VALUE), BAD);
    ThriceNets y = withStores(12);
    due("19 12 STORES", y.breaks(4095), 1);
    due("19 12 STORES, one missing", y.breaks(4094), 0);
    store(y);
    due("19 13 STORES", y.breaks(4096), NOT);
    due("19 13 STORES, none such", y.breaks(8192), BAD);
    ThriceNets z = withStores(24);
    due("19 24 STORES", z.breaks((1 << 24) - 1), NOT);
    due("19 24 STORES, none such", z.breaks(1 << 24), BAD);
  }

  private static void promise20Best() {
    ThriceNets x = new ThriceNets();
    input(x);
    int s0 = store(x);
    int s1 = store(x);
    int s2 = store(x);
    int xor = x.node(XOR, s0, s2);
    x.feed(s1, s0);
    x.feed(s2, s1);
    x.feed(s0, s2);
    due("20 a ring: the least bits", x.best(), 1);
    x.price(s0, 5);
    due("20 the next", x.best(), 2);
    x.price(s1, 3);
    due("20 the cheapest", x.best(), 4);
    x.feed(s1, xor);
    // Now 0 leads to 1, 2 to 1 and 0, 1 to 2: loops 1-2 and 0-1-2, all through both 1 and 2.
    due("20 shared by two loops", x.best(), 4);
    x.price(s2, 900);
    due("20 the other shared one", x.best(), 2);
    x.feed(s0, s0);
    // Loops 0 and 1-2.
    due("20 two loops", x.best(), 3);
    x.price(s1, 900);
    due("20 of like price and number the least bits", x.best(), 3);
    // 0-1 and 0-2 as pairs: STORE 0 for 2, or 1 and 2 for 1 each: the fewest.
    ThriceNets y = withStores(3);
    int or = y.node(OR, 1, 2);
    y.feed(0, or);
    y.feed(1, 0);
    y.feed(2, 0);
    y.price(0, 2);
    due("20 like prices: the fewest", y.best(), 1);
    y.price(0, 3);
    due("20 less price before the fewest", y.best(), 6);
    for (int s = 0; s < 3; s++) {
      y.price(s, 0);
    }
    due("20 all for nothing: the fewest", y.best(), 1);
    y.voter(1000);
    due("20 VOTER has no part in it", y.best(), 1);
    y.feed(1, or);
    due("20 one that leads to itself must be there", y.best() & 2, 2);
    ThriceNets free = new ThriceNets();
    input(free);
    free.feed(store(free), 0);
    free.feed(store(free), 1);
    due("20 no loops", free.best(), 0);
    ThriceNets z = withStores(12);
    due("20 12 STORES", z.best(), 4095);
    store(z);
    due("20 13 STORES", z.best(), NOT);
  }

  private static void promise21Harden() {
    ThriceNets x = new ThriceNets();
    int in = input(x);
    int s0 = store(x);
    int s1 = store(x);
    int s2 = store(x);
    x.feed(s2, in);
    x.thrice(s2, true);
    x.vote(s2, true);
    due("21 how many", x.harden(), 2);
    for (int node = 0; node < 4; node++) {
      due("21 THRICE " + node, x.about(node, 4), 1);
    }
    due("21 no INPUT is VOTED", x.about(in, 5), 0);
    due("21 VOTED", x.about(s0, 5), 1);
    due("21 VOTED too", x.about(s1, 5), 1);
    due("21 no others", x.about(s2, 5), 0);
    due("21 once more", x.harden(), 2);
    x.output(s0, true);
    due("21 no flip is SEEN", x.first(), NONE);
    ThriceNets y = withStores(13);
    due("21 13 STORES", y.harden(), NOT);
    due("21 which changes nothing", y.count(4) + y.count(5), 0);
  }

  private static void promise22Voter() {
    ThriceNets x = new ThriceNets();
    due("22 at first 1", x.voter(1000), 1);
    due("22 above", x.voter(1001), BAD);
    due("22 below", x.voter(-1), BAD);
    due("22 it stands", x.voter(0), 1000);
    due("22 0 is one too", x.voter(5), 0);
    due("22 count(8)", x.count(8), 5);
  }

  private static void promise23Cost() {
    ThriceNets x = new ThriceNets();
    int in = input(x);
    int s0 = store(x);
    int gate = x.node(AND, in, s0);
    due("23 three SINGLE", x.cost(), 3);
    x.price(gate, 100);
    due("23 a price", x.cost(), 102);
    x.thrice(s0, true);
    due("23 THRICE", x.cost(), 104);
    x.voter(50);
    due("23 no VOTED STORE", x.cost(), 104);
    x.vote(s0, true);
    due("23 VOTED", x.cost(), 254);
    x.output(gate, true);
    due("23 an OUTPUT costs nothing more", x.cost(), 254);
    ThriceNets y = withStores(24);
    y.voter(1000);
    for (int node = 0; node < 24; node++) {
      y.price(node, 1000);
      y.thrice(node, true);
      y.vote(node, true);
    }
    due("23 the most", y.cost(), 144000);
  }

  private static void promise24Slow() {
    ThriceNets x = new ThriceNets();
    int in = input(x);
    int s0 = store(x);
    int one = x.node(INVERTER, in, NONE);
    int two = x.node(AND, s0, one);
    int three = x.node(OR, two, in);
    due("24 gates that come to nothing", x.slow(), 0);
    x.output(in, true);
    x.output(s0, true);
    due("24 an INPUT, a STORE as OUTPUTS", x.slow(), 0);
    x.output(one, true);
    due("24 one gate", x.slow(), 1);
    x.output(three, true);
    due("24 the longest way", x.slow(), 3);
    x.output(three, false);
    due("24 no more", x.slow(), 1);
    x.feed(s0, two);
    due("24 to what a STORE takes", x.slow(), 2);
    x.thrice(s0, true);
    due("24 THRICE is no slower", x.slow(), 2);
    x.vote(s0, true);
    due("24 VOTED", x.slow(), 3);
    x.output(three, true);
    due("24 a like way", x.slow(), 3);
    x.feed(s0, three);
    due("24 VOTED behind three", x.slow(), 4);
    ThriceNets y = withStores(1);
    y.harden();
    due("24 VOTED alone", y.slow(), 1);
    ThriceNets z = new ThriceNets();
    input(z);
    for (int k = 1; k < 24; k++) {
      z.node(XOR, k - 1, 0);
    }
    z.output(23, true);
    due("24 the most", z.slow(), 23);
  }

  private static void promise25Sheet() {
    ThriceNets x = new ThriceNets();
    due("25 60 items", x.sheet(3, 2, 60), 60);
    due("25 0 at first", x.get(3, 2, 59), 0);
    x.put(3, 2, 5, 77);
    due("25 no items", x.sheet(0, 0, 0), 0);
    due("25 61", x.sheet(0, 0, 61), BAD);
    due("25 SHEET 4", x.sheet(4, 0, 1), BAD);
    due("25 SHEET -1", x.sheet(-1, 0, 1), BAD);
    due("25 FORM 3", x.sheet(0, 3, 1), BAD);
    due("25 FORM -1", x.sheet(0, -1, 1), BAD);
    due("25 no FINDING yet", x.count(6), 0);
    due("25 below 0", x.sheet(3, 2, -1), SIZE);
    due("25 the least", x.sheet(3, 2, Integer.MIN_VALUE), SIZE);
    due("25 BAD before SIZE", x.sheet(4, 2, -1), BAD);
    due("25 FORM before SIZE", x.sheet(0, 3, -1), BAD);
    due("25 it tells", x.count(6), 5);
    due("25 it stands", x.get(3, 2, 5), 77);
    due("25 a new row", x.sheet(3, 2, 6), 6);
    due("25 all 0 again", x.get(3, 2, 5), 0);
    x.put(3, 2, 5, 77);
    due("25 a longer one", x.sheet(3, 2, 3) + x.sheet(3, 2, 9), 12);
    due("25 nothing of the old", x.get(3, 2, 5), 0);
    due("25 another FORM", x.sheet(3, 1, 1), 1);
    due("25 has it", x.get(3, 1, 0), 0);
  }

  private static void promise26Lose() {
    ThriceNets x = new ThriceNets();
    due("26 LOST at first", x.lose(2), NULL);
    due("26 count(6)", x.count(6), 1);
    x.sheet(2, 1, 9);
    x.sheet(1, 1, 0);
    due("26 how many", x.lose(2), 9);
    due("26 LOST again", x.lose(2), NULL);
    due("26 an empty one", x.lose(1), 0);
    due("26 SHEET 4", x.lose(4), BAD);
    due("26 SHEET -1", x.lose(-1), BAD);
  }

  private static void promise27Put() {
    ThriceNets x = new ThriceNets();
    x.sheet(0, 0, 3);
    x.sheet(1, 1, 3);
    x.sheet(2, 2, 3);
    due("27 byte", x.put(0, 0, 2, 384), 1);
    due("27 its lowest bits", x.get(0, 0, 2), -128);
    due("27 short", x.put(1, 1, 0, 0x12345), 1);
    due("27 its lowest bits", x.get(1, 1, 0), 0x2345);
    due("27 short below 0", x.put(1, 1, 1, 0x18000), 1);
    due("27 as it is", x.get(1, 1, 1), -32768);
    due("27 int", x.put(2, 2, 1, Integer.MAX_VALUE), 1);
    due("27 whole", x.get(2, 2, 1), Integer.MAX_VALUE);
    due("27 SHEET 4", x.put(4, 0, 0, 1), BAD);
    due("27 SHEET -1", x.put(-1, 0, 0, 1), BAD);
    due("27 FORM 3", x.put(0, 3, 0, 1), BAD);
    due("27 FORM -1", x.put(0, -1, 0, 1), BAD);
    due("27 FORM 3 of a LOST one", x.put(3, 3, 0, 1), BAD);
    due("27 no FINDING yet", x.count(6), 0);
    due("27 LOST", x.put(3, 1, 99, 1) + 1000 * x.count(6), NULL + 1000);
    due("27 CAST before INDEX", x.put(0, 1, 99, 1) + 1000 * x.count(6), CAST + 3000);
    due("27 INDEX", x.put(0, 0, 3, 1) + 1000 * x.count(6), INDEX + 2000);
    due("27 INDEX below 0", x.put(0, 0, -1, 1), INDEX);
    due("27 INDEX far", x.put(2, 2, Integer.MAX_VALUE, 1), INDEX);
    due("27 the others stand", x.get(0, 0, 0) + x.get(0, 0, 1) + x.get(2, 2, 0) + x.get(2, 2, 2), 0);
  }

  private static void promise28Get() {
    ThriceNets x = new ThriceNets();
    int least = Integer.MIN_VALUE;
    x.sheet(0, 2, 2);
    x.put(0, 2, 1, 42);
    due("28 an item", x.get(0, 2, 1), 42);
    due("28 SHEET 4", x.get(4, 2, 1), least);
    due("28 SHEET -1", x.get(-1, 2, 1), least);
    due("28 FORM 3", x.get(0, 3, 1), least);
    due("28 FORM -1", x.get(0, -1, 1), least);
    due("28 no FINDING by these", x.count(6), 0);
    due("28 INDEX", x.get(0, 2, 2), least);
    due("28 count(6)", x.count(6), 2);
    due("28 LOST", x.get(1, 2, 5), least);
    due("28 count(6)", x.count(6), 1);
    due("28 CAST before INDEX", x.get(0, 1, 5), least);
    due("28 count(6)", x.count(6), 3);
    due("28 INDEX below 0", x.get(0, 2, -1), least);
    due("28 count(6)", x.count(6), 2);
    due("28 good again", x.get(0, 2, 0), 0);
    due("28 the latest stays", x.count(6), 2);
  }

  private static ThriceNets counting(int form, int n) {
    ThriceNets x = new ThriceNets();
    x.sheet(0, form, n);
    for (int i = 0; i < n; i++) {
      x.put(0, form, i, i + 1);
    }
    return x;
  }

  private static void promise29Move() {
    ThriceNets x = counting(1, 5);
    x.sheet(1, 1, 4);
    due("29 to another", x.move(0, 2, 1, 1, 3), 1);
    dueItems("29 there", x, 1, 1, 0, 3, 4, 5);
    dueItems("29 here still", x, 0, 1, 1, 2, 3, 4, 5);
    due("29 upwards in one", x.move(0, 0, 0, 1, 4), 1);
    dueItems("29 as they were", x, 0, 1, 1, 1, 2, 3, 4);
    due("29 downwards in one", x.move(0, 1, 0, 0, 4), 1);
    dueItems("29 as they were too", x, 0, 1, 1, 2, 3, 4, 4);
    due("29 none, at the end", x.move(0, 5, 1, 4, 0), 1);
    due("29 none, behind the end", x.move(0, 6, 1, 0, 0), INDEX);
    due("29 none, behind the other's end", x.move(0, 0, 1, 5, 0), INDEX);
    due("29 not so many", x.move(0, 3, 1, 0, 3), INDEX);
    due("29 not so much room", x.move(0, 0, 1, 2, 3), INDEX);
    due("29 below 0", x.move(0, -1, 1, 0, 1), INDEX);
    due("29 to below 0", x.move(0, 0, 1, -1, 1), INDEX);
    due("29 less than none", x.move(0, 0, 1, 0, -1), INDEX);
    due("29 sums that wrap", x.move(0, Integer.MAX_VALUE, 1, 0, Integer.MAX_VALUE), INDEX);
    due("29 sums that wrap, to", x.move(0, 0, 1, Integer.MAX_VALUE, 5), INDEX);
    due("29 count(6)", x.count(6), 2);
    dueItems("29 nothing moved", x, 1, 1, 0, 3, 4, 5);
    x.sheet(2, 0, 5);
    due("29 unlike FORMS", x.move(0, 0, 2, 0, 1), UNLIKE);
    due("29 count(6)", x.count(6), 4);
    due("29 unlike before INDEX", x.move(0, 99, 2, -1, 1), UNLIKE);
    due("29 from a LOST one", x.move(3, 99, 0, 0, 1), NULL);
    due("29 to a LOST one", x.move(2, 99, 3, 0, 1), NULL);
    due("29 count(6)", x.count(6), 1);
    due("29 SHEET 4", x.move(4, 0, 3, 0, 1), BAD);
    due("29 to SHEET 4", x.move(3, 0, 4, 0, 1), BAD);
    due("29 SHEET -1", x.move(-1, 0, 0, 0, 1), BAD);
    due("29 to SHEET -1", x.move(0, 0, -1, 0, 1), BAD);
  }

  private static void promise30Count() {
    ThriceNets x = new ThriceNets();
    input(x);
    input(x);
    store(x);
    x.node(AND, 0, 1);
    store(x);
    store(x);
    x.output(0, true);
    x.output(3, true);
    x.output(4, true);
    x.output(5, true);
    for (int node = 1; node < 6; node++) {
      x.thrice(node, true);
    }
    x.vote(2, true);
    x.vote(4, true);
    x.lose(0);
    x.ticks(11);
    x.voter(12);
    int[] counts = {6, 2, 3, 4, 5, 2, 1, 11, 12};
    for (int what = 0; what < counts.length; what++) {
      due("30 count(" + what + ")", x.count(what), counts[what]);
    }
    due("30 what 9", x.count(9), BAD);
    due("30 what -1", x.count(-1), BAD);
    x.output(0, false);
    x.thrice(2, false);
    due("30 OUTPUTS less", x.count(3), 3);
    due("30 THRICE less", x.count(4), 4);
    due("30 VOTED less", x.count(5), 1);
  }

  private static long digestOf(long... all) {
    long h = 17;
    for (long x : all) {
      h = 31 * h + x;
    }
    return h;
  }

  private static void promise31Digest() {
    ThriceNets x = new ThriceNets();
    due("31 new", x.digest(), digestOf(0, 0, 0, 0, 0, 0, 8, 1, 0));
    input(x);
    store(x);
    x.feed(1, 0);
    x.thrice(1, true);
    x.vote(1, true);
    x.price(0, 9);
    x.voter(4);
    x.ticks(3);
    inputs(x, 1, 0, 1);
    x.output(1, true);
    x.output(0, true);
    due("31 two NODES", x.digest(), digestOf(
        2, 1, 1, 2, 1, 1, 3, 4,
        -1, -1, 1, 0, 0, 9,
        0, -1, 1, 1, 1, 1,
        1, 0, 1,
        0, 1, 0,
        9 + 3 + 12));
    ThriceNets full = withStores(24);
    full.ticks(1);
    long[] all = new long[8 + 24 * 6 + 1];
    System.arraycopy(new long[] {24, 0, 24, 0, 0, 0, 1, 1}, 0, all, 0, 8);
    for (int node = 0; node < 24; node++) {
      System.arraycopy(new long[] {node, -1, 0, 0, 0, 1}, 0, all, 8 + 6 * node, 6);
    }
    all[8 + 24 * 6] = 24;
    due("31 24 NODES", full.digest(), digestOf(all));
    long before = x.digest();
    x.lose(3);
    due("31 FINDINGS are no part of it", x.digest(), before);
    x.output(0, false);
    due("31 one OUTPUT", x.digest(), digestOf(
        2, 1, 1, 1, 1, 1, 3, 4,
        -1, -1, 0, 0, 0, 9,
        0, -1, 1, 1, 1, 1,
        0, 1, 0,
        9 + 3 + 12));
  }

  /** Questions and refusals leave the object as it was. */
  private static void refusalsChangeNothing() {
    ThriceNets x = counting(0, 4);
    input(x);
    store(x);
    x.node(XOR, 0, 1);
    x.feed(1, 2);
    x.output(2, true);
    x.thrice(1, true);
    long before = x.digest();
    for (int far : FAR) {
      due("refused node", x.node(far, far, far), BAD);
      due("refused feed", x.feed(far, 0), BAD);
      due("refused feed", x.feed(1, far), BAD);
      due("refused output", x.output(far, true), BAD);
      due("refused price", x.price(far, 3), BAD);
      due("refused price", x.price(0, far), BAD);
      due("refused thrice", x.thrice(far, true), BAD);
      due("refused vote", x.vote(far, true), BAD);
      due("refused plain", x.plain(far, 0) + x.plain(0, far), 2 * BAD);
      due("refused copy", x.copy(far, 0, 0) + x.copy(0, far, 0) + x.copy(0, 0, far), 3 * BAD);
      due("refused flip", x.flip(far, 0, 0) + x.flip(0, far, 0) + x.flip(0, 0, far), 3 * BAD);
      due("refused many", x.many(far), BAD);
      due("refused masked", x.masked(far), BAD);
      due("refused pairs", x.pairs(far), BAD);
      due("refused leads", x.leads(far, 0) + x.leads(0, far), 2 * BAD);
      due("refused breaks", x.breaks(far), BAD);
      due("refused voter", x.voter(far), BAD);
      due("refused sheet", x.sheet(far, 0, 1) + x.sheet(0, far, 1), 2 * BAD);
      due("refused lose", x.lose(far), BAD);
      due("refused put", x.put(far, 0, 0, 0) + x.put(0, far, 0, 0), 2 * BAD);
      due("refused move", x.move(far, 0, 0, 0, 1) + x.move(0, 0, far, 0, 1), 2 * BAD);
      due("refused count", x.count(far), BAD);
    }
    x.many(3);
    x.pairs(1);
    x.first();
    x.best();
    x.breaks(1);
    x.slow();
    due("digest after all that", x.digest(), before);
    due("no FINDING", x.count(6), 0);
    dueItems("the items stand", x, 0, 0, 1, 2, 3, 4);
  }
}
