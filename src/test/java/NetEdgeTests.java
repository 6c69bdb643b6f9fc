/** The sentences about nets (promises 1 to 8) that name a boundary, each with a test of its own. */
public final class NetEdgeTests extends TestBase {
  private NetEdgeTests() {
  }

  public static void main(String[] args) {
    callsOfAnObject();
    newObject();
    mostNodes();
    kinds();
    sourcesOfEachKind();
    lesserNumbers();
    sourceOfAStore();
    nodeAnswers();
    nodeRefusals();
    feedAnswers();
    feedRefusals();
    anyNodeMayBeAnOutput();
    outputAnswers();
    outputRefusals();
    priceRange();
    priceAnswers();
    priceRefusals();
    numbersOfInputs();
    numbersOfStores();
    aboutAnswers();
    aboutRefusals();
    singleAtFirst();
    thriceAnswers();
    thriceRefusals();
    mayBeVoted();
    voteAnswers();
    voteRefusals();
    Due.end("NetEdgeTests");
  }

  private static void callsOfAnObject() {
    Due.says("An object is used for at most 512 calls after it has been made");
    ThriceNets x = new ThriceNets();
    for (int call = 1; call < 512; call++) {
      due("call " + call, x.voter(call), call == 1 ? 1 : call - 1);
    }
    due("call 512", x.voter(0), 511);
    ThriceNets y = withStores(12);
    due("call 13", y.ticks(16), 8);
    for (int call = 14; call < 512; call++) {
      due("call " + call, y.sheet(call % 4, call % 3, call % 61), call % 61);
    }
    due("call 512", y.many(2), 12 * 16);
  }

  private static void newObject() {
    Due.says("No NODES; all SHEETS are LOST.");
    for (int what = 0; what <= 5; what++) {
      due("count(" + what + ")", new ThriceNets().count(what), 0);
    }
    due("about(0, 0)", new ThriceNets().about(0, 0), BAD);
    for (int s = 0; s < 4; s++) {
      due("lose(" + s + ")", new ThriceNets().lose(s), NULL);
      due("move(" + s + ")", new ThriceNets().move(s, 0, s, 0, 0), NULL);
    }
    ThriceNets one = new ThriceNets();
    ThriceNets other = new ThriceNets();
    input(one);
    one.sheet(0, BYTES, 1);
    due("another object has no NODES", other.count(0), 0);
    due("another object's SHEET 0", other.lose(0), NULL);
  }

  private static void mostNodes() {
    Due.says("23 (24 at most), each of a KIND with SOURCES");
    for (int kind = INPUT; kind <= STORE; kind++) {
      ThriceNets x = withInputs(23);
      due("node 23 is not there", x.about(23, 0), BAD);
      due("a 24th of KIND " + kind, anyOf(x, kind), 23);
      due("it is there", x.about(23, 0), kind);
      for (int more = INPUT; more <= STORE; more++) {
        due("a 25th of KIND " + more, anyOf(x, more), FULL);
      }
      due("count(0)", x.count(0), 24);
      due("node 24 is not there", x.about(24, 0), BAD);
    }
  }

  private static void kinds() {
    Due.says("0 INPUT (none), 1 NOT (one), 2 AND, 3 OR, 4 XOR (two), 5 STORE (one).");
    ThriceNets x = withInputs(1);
    int[] none = {-1, 6, 7, -2, LEAST, MOST};
    for (int kind : none) {
      due("KIND " + kind + " without SOURCES", x.node(kind, NONE, NONE), BAD);
      due("KIND " + kind + " with one", x.node(kind, 0, NONE), BAD);
      due("KIND " + kind + " with two", x.node(kind, 0, 0), BAD);
    }
    due("count(0)", x.count(0), 1);
    ThriceNets all = oneOfEachKind();
    for (int kind = INPUT; kind <= STORE; kind++) {
      due("KIND " + kind, all.about(kind, 0), kind);
    }
    // With INPUT 0 having 0 and then 1: what NOT, AND, OR and XOR of it with itself have.
    inputs(all, 0, 1);
    int[] at0 = {0, 1, 0, 0, 0, 0};
    int[] at1 = {1, 0, 1, 1, 0, 0};
    for (int node = 0; node < 6; node++) {
      due("KIND " + node + " of 0", all.plain(node, 0), at0[node]);
      due("KIND " + node + " of 1", all.plain(node, 1), at1[node]);
    }
    int[][] truth = {{0, 0, 0, 1}, {0, 1, 1, 1}, {0, 1, 1, 0}};
    for (int kind = AND; kind <= XOR; kind++) {
      ThriceNets two = withInputs(2);
      two.node(kind, 0, 1);
      inputs(two, 0, 1, 2, 3);
      for (int tick = 0; tick < 4; tick++) {
        due("KIND " + kind + " of the bits of " + tick, two.plain(2, tick), truth[kind - AND][tick]);
      }
    }
  }

  /** Whether a SOURCE is one of the NODES 0 .. 2 of a net of three. */
  private static boolean isThere(int source) {
    return source >= 0 && source <= 2;
  }

  private static void sourcesOfEachKind() {
    Due.says("NONE where it has none; of a STORE both are NONE: see feed()");
    int[] sources = {LEAST, -3, -2, -1, 0, 1, 2, 3, 4, 23, 24, MOST};
    for (int kind = INPUT; kind <= STORE; kind++) {
      for (int a : sources) {
        for (int b : sources) {
          boolean good = switch (kind) {
            case INPUT, STORE -> a == NONE && b == NONE;
            case INVERTER -> isThere(a) && b == NONE;
            default -> isThere(a) && isThere(b);
          };
          ThriceNets x = withInputs(3);
          String call = "node(" + kind + ", " + a + ", " + b + ")";
          due(call, x.node(kind, a, b), good ? 3 : BAD);
          due("count(0) behind " + call, x.count(0), good ? 4 : 3);
        }
      }
    }
  }

  private static void lesserNumbers() {
    Due.says("SOURCES of NOT, AND, OR, XOR are lesser numbers");
    for (int kind = INVERTER; kind <= XOR; kind++) {
      int second = kind == INVERTER ? NONE : 0;
      due("in the empty net", new ThriceNets().node(kind, 0, second), BAD);
      for (int size = 1; size <= 23; size += 11) {
        ThriceNets x = withInputs(size);
        due("itself", x.node(kind, size, second), BAD);
        due("a greater one", x.node(kind, size + 1, second), BAD);
        due("below 0", x.node(kind, -1, second), BAD);
        due("the greatest of the lesser", x.node(kind, size - 1, second), size);
        due("it is the SOURCE", x.about(size, 1), size - 1);
        ThriceNets y = withInputs(size);
        if (kind != INVERTER) {
          due("itself as the second", y.node(kind, 0, size), BAD);
          due("a greater one as the second", y.node(kind, 0, size + 1), BAD);
          due("below 0 as the second", y.node(kind, 0, -1), BAD);
          due("the greatest of the lesser as the second", y.node(kind, 0, size - 1), size);
          due("it is the second SOURCE", y.about(size, 2), size - 1);
        }
      }
    }
  }

  private static void sourceOfAStore() {
    Due.says("that of a STORE is itself at first, then any NODE.");
    ThriceNets x = withStores(24);
    for (int store = 0; store < 24; store++) {
      due("itself at first: " + store, x.about(store, 1), store);
      due("no second one: " + store, x.about(store, 2), NONE);
    }
    due("STORE 0 takes NODE 23", x.feed(0, 23), 0);
    due("STORE 23 takes NODE 0", x.feed(23, 0), 23);
    due("STORE 12 takes a greater number", x.feed(12, 13), 12);
    due("STORE 12 takes itself again", x.feed(12, 12), 13);
    for (int kind = INPUT; kind <= STORE; kind++) {
      ThriceNets y = oneOfEachKind();
      due("KIND " + kind + " as SOURCE", y.feed(5, kind), 5);
      due("it is", y.about(5, 1), kind);
    }
  }

  private static void nodeAnswers() {
    Due.says("A NODE more, with SOURCES a, b");
    ThriceNets x = withInputs(2);
    due("its number", x.node(AND, 1, 0), 2);
    due("a", x.about(2, 1), 1);
    due("b", x.about(2, 2), 0);
    due("a twice", x.node(XOR, 2, 2), 3);
    due("its number behind it", input(x), 4);
  }

  private static void nodeRefusals() {
    Due.says("its number. BAD; FULL.");
    ThriceNets x = withStores(24);
    due("BAD where it is full, too: KIND", x.node(6, NONE, NONE), BAD);
    due("BAD where it is full, too: KIND below 0", x.node(-1, NONE, NONE), BAD);
    due("BAD where it is full, too: SOURCE", x.node(INVERTER, 24, NONE), BAD);
    due("BAD where it is full, too: second SOURCE", x.node(OR, 0, 24), BAD);
    due("BAD where it is full, too: a SOURCE too many", x.node(STORE, 0, NONE), BAD);
    due("FULL", x.node(INVERTER, 23, NONE), FULL);
    due("FULL for two", x.node(OR, 0, 23), FULL);
    due("FULL for none", store(x), FULL);
    due("24 still", x.count(0) + x.count(2), 48);
  }

  private static void feedAnswers() {
    Due.says("The SOURCE of a STORE: what it was. BAD.");
    ThriceNets x = oneOfEachKind();
    due("itself", x.feed(5, 0), 5);
    due("the first NODE", x.feed(5, 4), 0);
    due("the last but one", x.feed(5, 4), 4);
    due("like before", x.feed(5, 5), 4);
    due("itself again", x.feed(5, 5), 5);
  }

  private static void feedRefusals() {
    Due.says("`int feed(int store, int source)`");
    ThriceNets x = oneOfEachKind();
    for (int node = INPUT; node < STORE; node++) {
      due("not a STORE: " + node, x.feed(node, 0), BAD);
      due("its SOURCE stands", x.about(node, 1), node == INPUT ? NONE : 0);
    }
    int[] none = {LEAST, -2, -1, 6, 23, 24, MOST};
    for (int node : none) {
      due("no such STORE: " + node, x.feed(node, 0), BAD);
      due("no such SOURCE: " + node, x.feed(5, node), BAD);
    }
    due("it stands", x.about(5, 1), 5);
    due("in the empty net", new ThriceNets().feed(0, 0), BAD);
    ThriceNets full = withStores(24);
    due("STORE 24", full.feed(24, 0), BAD);
    due("SOURCE 24", full.feed(0, 24), BAD);
    due("STORE 23 of SOURCE 22", full.feed(23, 22), 23);
  }

  private static void anyNodeMayBeAnOutput() {
    Due.says("NODES may be OUTPUTS.");
    ThriceNets x = oneOfEachKind();
    for (int node = INPUT; node <= STORE; node++) {
      due("none at first: " + node, x.about(node, 3), 0);
      due("KIND " + node, x.output(node, true), 1);
      due("it is one", x.about(node, 3), 1);
      due("so many", x.count(3), node + 1);
    }
    ThriceNets full = withInputs(24);
    due("the first", full.output(0, true), 1);
    due("the last", full.output(23, true), 1);
    due("two", full.count(3), 2);
  }

  private static void outputAnswers() {
    Due.says("A NODE is an OUTPUT, or not: 1. BAD.");
    ThriceNets x = withInputs(1);
    due("not, which it is already", x.output(0, false), 1);
    due("is", x.output(0, true), 1);
    due("is, which it is already", x.output(0, true), 1);
    due("one", x.count(3), 1);
    due("not", x.output(0, false), 1);
    due("none", x.count(3) + x.about(0, 3), 0);
  }

  private static void outputRefusals() {
    Due.says("`int output(int node, boolean is)`");
    due("in the empty net", new ThriceNets().output(0, true), BAD);
    int[] none = {LEAST, -2, -1, 24, 25, MOST};
    ThriceNets x = withInputs(24);
    for (int node : none) {
      due("is: " + node, x.output(node, true), BAD);
      due("not: " + node, x.output(node, false), BAD);
    }
    due("none", x.count(3), 0);
    ThriceNets y = withInputs(2);
    due("the last", y.output(1, true), 1);
    due("behind the last", y.output(2, true), BAD);
    input(y);
    due("it is none when it comes", y.about(2, 3), 0);
  }

  private static void priceRange() {
    Due.says("A NODE has a PRICE (0 to 1000; 1 at first).");
    ThriceNets x = oneOfEachKind();
    for (int node = INPUT; node <= STORE; node++) {
      due("1 at first: " + node, x.about(node, 6), 1);
      due("0", x.price(node, 0), 1);
      due("-1", x.price(node, -1), BAD);
      due("1000", x.price(node, 1000), 0);
      due("1001", x.price(node, 1001), BAD);
      due("the least", x.price(node, LEAST), BAD);
      due("the most", x.price(node, MOST), BAD);
      due("it stands", x.about(node, 6), 1000);
    }
  }

  private static void priceAnswers() {
    Due.says("The PRICE of a NODE: what it was. BAD.");
    ThriceNets x = withInputs(24);
    due("the first", x.price(0, 7), 1);
    due("the first again", x.price(0, 7), 7);
    due("the last", x.price(23, 999), 1);
    due("the last again", x.price(23, 1), 999);
    due("its neighbour", x.about(22, 6), 1);
  }

  private static void priceRefusals() {
    Due.says("`int price(int node, int p)`");
    due("in the empty net", new ThriceNets().price(0, 1), BAD);
    ThriceNets x = withInputs(3);
    int[] none = {LEAST, -2, -1, 3, 4, 24, MOST};
    for (int node : none) {
      due("no such NODE: " + node, x.price(node, 5), BAD);
    }
    due("the cost stands", x.cost(), 3);
    input(x);
    due("1 when it comes", x.about(3, 6), 1);
    ThriceNets full = withInputs(24);
    due("NODE 24", full.price(24, 5), BAD);
  }

  private static void numbersOfInputs() {
    Due.says("INPUTS are numbered by themselves, from 0, as they came; STORES, too.");
    ThriceNets x = withInputs(24);
    for (int node = 0; node < 24; node++) {
      due("INPUT " + node, x.about(node, 7), node);
    }
    ThriceNets y = withStores(23);
    due("the first INPUT behind 23 STORES", y.about(input(y), 7), 0);
    inputs(y, 1);
    due("it has the lowest bit", y.plain(23, 0), 1);
  }

  private static void numbersOfStores() {
    Due.says("STORES, too.");
    ThriceNets x = withStores(24);
    for (int node = 0; node < 24; node++) {
      due("STORE " + node, x.about(node, 7), node);
    }
    ThriceNets y = withInputs(23);
    due("the first STORE behind 23 INPUTS", y.about(store(y), 7), 0);
    due("it leads to itself", y.leads(0, 0), 1);
    ThriceNets z = new ThriceNets();
    for (int k = 0; k < 8; k++) {
      store(z);
      input(z);
      z.node(INVERTER, 3 * k, NONE);
      due("STORE in turn", z.about(3 * k, 7), k);
      due("INPUT in turn", z.about(3 * k + 1, 7), k);
      due("a gate has none", z.about(3 * k + 2, 7), NONE);
    }
  }

  private static void aboutAnswers() {
    Due.says("0 KIND, 1, 2 SOURCES (NONE), 3 whether an OUTPUT, 4 whether THRICE, 5 whether VOTED (1, 0), 6 PRICE, "
        + "7 the number of an INPUT, of a STORE (NONE).");
    ThriceNets x = oneOfEachKind();
    int[][] first = {
      {INPUT, NONE, NONE, 0, 0, 0, 1, 0},
      {INVERTER, 0, NONE, 0, 0, 0, 1, NONE},
      {AND, 0, 0, 0, 0, 0, 1, NONE},
      {OR, 0, 0, 0, 0, 0, 1, NONE},
      {XOR, 0, 0, 0, 0, 0, 1, NONE},
      {STORE, 5, NONE, 0, 0, 0, 1, 0},
    };
    for (int node = INPUT; node <= STORE; node++) {
      for (int what = 0; what <= 7; what++) {
        due("about(" + node + ", " + what + ")", x.about(node, what), first[node][what]);
      }
    }
    // One fact after another changes, and no other with it.
    int[] now = first[5].clone();
    x.feed(5, 2);
    now[1] = 2;
    dueFacts(x, now);
    x.output(5, true);
    now[3] = 1;
    dueFacts(x, now);
    x.thrice(5, true);
    now[4] = 1;
    dueFacts(x, now);
    x.vote(5, true);
    now[5] = 1;
    dueFacts(x, now);
    x.price(5, 0);
    now[6] = 0;
    dueFacts(x, now);
  }

  private static void dueFacts(ThriceNets x, int[] facts) {
    for (int what = 0; what <= 7; what++) {
      due("about(5, " + what + ")", x.about(5, what), facts[what]);
    }
  }

  private static void aboutRefusals() {
    Due.says("`int about(int node, int what)`");
    int[] noFact = {LEAST, -2, -1, 8, 9, MOST};
    int[] noNode = {LEAST, -2, -1, 6, 7, 24, MOST};
    ThriceNets x = oneOfEachKind();
    for (int node = INPUT; node <= STORE; node++) {
      for (int what : noFact) {
        due("about(" + node + ", " + what + ")", x.about(node, what), BAD);
      }
    }
    for (int what = 0; what <= 7; what++) {
      for (int node : noNode) {
        due("about(" + node + ", " + what + ")", x.about(node, what), BAD);
      }
      due("in the empty net", new ThriceNets().about(0, what), BAD);
      due("in the full net", withInputs(24).about(24, what), BAD);
    }
  }

  private static void singleAtFirst() {
    Due.says("each NODE is SINGLE (at first) or THRICE");
    ThriceNets x = oneOfEachKind();
    for (int node = INPUT; node <= STORE; node++) {
      due("SINGLE at first: " + node, x.about(node, 4), 0);
      due("THRICE", x.thrice(node, true), 1);
      due("it is", x.about(node, 4), 1);
      due("so many", x.count(4), node + 1);
    }
  }

  private static void thriceAnswers() {
    Due.says("A NODE is THRICE, or SINGLE (a STORE is not VOTED then): 1; 0: it is so already. BAD.");
    ThriceNets x = withStores(24);
    for (int node = 0; node < 24; node += 23) {
      due("SINGLE already", x.thrice(node, false), 0);
      due("THRICE", x.thrice(node, true), 1);
      due("THRICE already", x.thrice(node, true), 0);
      due("VOTED", x.vote(node, true), 1);
      due("THRICE already, and VOTED", x.thrice(node, true), 0);
      due("still VOTED", x.about(node, 5), 1);
      due("SINGLE", x.thrice(node, false), 1);
      due("not VOTED then", x.about(node, 5) + x.count(5), 0);
      due("SINGLE already again", x.thrice(node, false), 0);
      due("THRICE again", x.thrice(node, true), 1);
      due("which votes for nothing", x.about(node, 5), 0);
    }
  }

  private static void thriceRefusals() {
    Due.says("`int thrice(int node, boolean is)`");
    due("in the empty net", new ThriceNets().thrice(0, false), BAD);
    int[] none = {LEAST, -2, -1, 24, 25, MOST};
    ThriceNets x = withInputs(24);
    for (int node : none) {
      due("THRICE: " + node, x.thrice(node, true), BAD);
      due("SINGLE: " + node, x.thrice(node, false), BAD);
    }
    due("none", x.count(4), 0);
    ThriceNets y = withInputs(1);
    due("behind the last", y.thrice(1, true), BAD);
    input(y);
    due("SINGLE when it comes", y.about(1, 4), 0);
  }

  private static void mayBeVoted() {
    Due.says("a STORE that is THRICE may be VOTED.");
    ThriceNets x = oneOfEachKind();
    due("not yet", x.vote(5, true), NOT);
    allThrice(x);
    for (int node = INPUT; node < STORE; node++) {
      due("THRICE, and no STORE: " + node, x.vote(node, true), BAD);
    }
    due("a STORE that is THRICE", x.vote(5, true), 1);
    due("the only one", x.count(5), 1);
  }

  private static void voteAnswers() {
    Due.says("A STORE is VOTED, or not: 1; 0: it is so already.");
    ThriceNets x = withStores(24);
    allThrice(x);
    for (int node = 0; node < 24; node += 23) {
      due("not VOTED already", x.vote(node, false), 0);
      due("VOTED", x.vote(node, true), 1);
      due("VOTED already", x.vote(node, true), 0);
      due("so it is", x.about(node, 5), 1);
      due("not VOTED", x.vote(node, false), 1);
      due("not VOTED already", x.vote(node, false), 0);
      due("so it is not", x.about(node, 5), 0);
      due("THRICE all the same", x.about(node, 4), 1);
    }
  }

  private static void voteRefusals() {
    Due.says("BAD: not a STORE; NOT: it is SINGLE.");
    ThriceNets x = oneOfEachKind();
    for (int node = INPUT; node < STORE; node++) {
      due("not a STORE, and SINGLE: " + node, x.vote(node, true), BAD);
      due("not a STORE, and not VOTED: " + node, x.vote(node, false), BAD);
    }
    int[] none = {LEAST, -2, -1, 6, 7, 24, MOST};
    for (int node : none) {
      due("no such NODE: " + node, x.vote(node, true), BAD);
      due("no such NODE, not: " + node, x.vote(node, false), BAD);
    }
    due("SINGLE", x.vote(5, true), NOT);
    due("SINGLE, not", x.vote(5, false), NOT);
    due("none", x.count(5), 0);
    x.thrice(5, true);
    due("THRICE", x.vote(5, true), 1);
    x.thrice(5, false);
    due("SINGLE again", x.vote(5, true), NOT);
    due("in the empty net", new ThriceNets().vote(0, true), BAD);
    due("STORE 24", withStores(24).vote(24, true), BAD);
  }
}
