/** The sentences about voters and costs (promises 18 to 24) that name a boundary, each with a test of its own. */
public final class VoterEdgeTests extends TestBase {
  private VoterEdgeTests() {
  }

  public static void main(String[] args) {
    leadOverGates();
    leadsAnswers();
    leadsRefusals();
    rowsOfOneOrMore();
    breaksAnswers();
    breaksRefusals();
    leastPrice();
    fewestOfLikePrice();
    leastBitsOfLikeOnes();
    twelveAtMost();
    bestAnswers();
    hardenAnswers();
    hardenRefusals();
    voterRange();
    voterAnswers();
    costOfNodes();
    costOfVoters();
    slowWays();
    slowVoted();
    slowOfNone();
    Due.end("VoterEdgeTests");
  }

  /** STORES in a ring, each taking from the one before it. */
  private static ThriceNets ring(int n) {
    ThriceNets x = withStores(n);
    for (int s = 0; s < n; s++) {
      x.feed(s, (s + n - 1) % n);
    }
    return x;
  }

  /** STORES in a row, each taking from the one before it, the first from an INPUT. */
  private static ThriceNets row(int n) {
    ThriceNets x = withStores(n);
    int in = input(x);
    for (int s = 0; s < n; s++) {
      x.feed(s, s == 0 ? in : s - 1);
    }
    return x;
  }

  // ---- loops

  private static void leadOverGates() {
    Due.says("STORES lead to one another, if from one's bit to the other's SOURCE one comes over NODES that are no STORES (or at once).");
    ThriceNets x = withStores(2);
    due("itself at once", x.leads(0, 0), 1);
    due("not the other", x.leads(0, 1) + x.leads(1, 0), 0);
    x.feed(1, 0);
    due("the other at once", x.leads(0, 1), 1);
    due("not back", x.leads(1, 0), 0);
    due("itself no more", x.leads(1, 1), 0);
    for (int node = 2; node < 24; node++) {
      x.node(INVERTER, node == 2 ? 0 : node - 1, NONE);
    }
    x.feed(1, 23);
    due("over 22 gates", x.leads(0, 1), 1);
    ThriceNets y = row(3);
    due("not over a STORE", y.leads(0, 2), 0);
    due("from STORE to STORE", y.leads(0, 1) + y.leads(1, 2), 2);
    for (int kind = AND; kind <= XOR; kind++) {
      ThriceNets z = withStores(4);
      int gate = z.node(kind, 0, 1);
      z.feed(2, gate);
      due("by the first SOURCE, KIND " + kind, z.leads(0, 2), 1);
      due("by the second SOURCE, KIND " + kind, z.leads(1, 2), 1);
      due("by neither, KIND " + kind, z.leads(3, 2) + z.leads(2, 2), 0);
    }
    ThriceNets not = withStores(4);
    not.feed(2, not.node(INVERTER, 1, NONE));
    due("by the SOURCE of a NOT", not.leads(1, 2), 1);
    due("by that alone", not.leads(0, 2) + not.leads(2, 2) + not.leads(3, 2), 0);
    ThriceNets same = withStores(1);
    same.feed(0, same.node(XOR, 0, 0));
    due("a way is a way, whatever comes over it", same.leads(0, 0), 1);
  }

  private static void leadsAnswers() {
    Due.says("Whether one STORE leads to another (or itself) over NODES that are no STORES: 1, 0.");
    ThriceNets x = ring(24);
    for (int s = 0; s < 24; s++) {
      int next = (s + 1) % 24;
      due(s + " to " + next, x.leads(s, next), 1);
      due(next + " to " + s, x.leads(next, s), 0);
      due(s + " to itself", x.leads(s, s), 0);
    }
    ThriceNets y = new ThriceNets();
    input(y);
    y.node(INVERTER, 0, NONE);
    store(y);
    store(y);
    y.feed(3, 2);
    due("by the numbers of STORES, not of NODES", y.leads(0, 1), 1);
    due("the first to itself", y.leads(0, 0), 1);
    y.feed(2, 0);
    due("an INPUT leads to it", y.leads(0, 0) + y.leads(1, 0), 0);
  }

  private static void leadsRefusals() {
    Due.says("BAD: numbers of STORES.");
    due("in the empty net", new ThriceNets().leads(0, 0), BAD);
    due("without STORES", withInputs(24).leads(0, 0), BAD);
    int[] sizes = {1, 12, 13, 24};
    for (int n : sizes) {
      ThriceNets x = withStores(n);
      int[] none = {LEAST, -2, -1, n, n + 1, MOST};
      for (int s : none) {
        due("STORE " + s + " of " + n, x.leads(s, 0), BAD);
        due("other STORE " + s + " of " + n, x.leads(0, s), BAD);
        due("both STORES " + s + " of " + n, x.leads(s, s), BAD);
      }
      due("the last of " + n, x.leads(n - 1, n - 1), 1);
    }
    ThriceNets y = withInputs(2);
    store(y);
    due("a NODE's number", y.leads(2, 2), BAD);
    due("its STORE's number", y.leads(0, 0), 1);
  }

  private static void rowsOfOneOrMore() {
    Due.says("A set of STORES BREAKS ALL LOOPS, if without these no row of one or more of the others leads from a STORE back to itself.");
    for (int n = 1; n <= 12; n++) {
      ThriceNets x = ring(n);
      due("a ring of " + n, x.breaks(0), 0);
      due("without its first", x.breaks(1), 1);
      due("without its last", x.breaks(1 << n - 1), 1);
      due("without all", x.breaks((1 << n) - 1), 1);
      due("a row of " + n, row(n).breaks(0), 1);
    }
    ThriceNets y = row(12);
    y.feed(11, 11);
    due("a loop of one at the end of a row", y.breaks(0), 0);
    due("without all but it", y.breaks(2047), 0);
    due("without it", y.breaks(2048), 1);
    ThriceNets z = row(12);
    z.feed(0, 0);
    due("a loop of one at the beginning of a row", z.breaks(0), 0);
    due("without all but it", z.breaks(4094), 0);
    due("without it", z.breaks(1), 1);
    ThriceNets back = withStores(12);
    int in = input(back);
    for (int s = 0; s < 12; s++) {
      back.feed(s, s == 11 ? in : s + 1);
    }
    due("a row against the numbers", back.breaks(0), 1);
    back.feed(11, 0);
    due("a ring against the numbers", back.breaks(0), 0);
    due("without one in its middle", back.breaks(32), 1);
  }

  private static void breaksAnswers() {
    Due.says("Whether a set of STORES, as bits by their numbers, BREAKS ALL LOOPS: 1, 0.");
    due("the empty net", new ThriceNets().breaks(0), 1);
    due("no STORES", withInputs(24).breaks(0), 1);
    ThriceNets x = withStores(12);
    for (int s = 0; s < 12; s++) {
      due("all but STORE " + s, x.breaks(4095 & ~(1 << s)), 0);
    }
    due("all", x.breaks(4095), 1);
    due("none", x.breaks(0), 0);
    // Loops 0-1 and 1-2: what is in both, or one of each.
    ThriceNets y = withStores(3);
    y.feed(0, 1);
    y.feed(2, 1);
    y.feed(1, y.node(OR, 0, 2));
    int[] breaks = {0, 0, 1, 1, 0, 1, 1, 1};
    for (int bits = 0; bits < 8; bits++) {
      due("breaks(" + bits + ")", y.breaks(bits), breaks[bits]);
    }
  }

  private static void breaksRefusals() {
    Due.says("BAD: bits of STORES that are not there; NOT: there are more than 12.");
    int[] sizes = {0, 1, 2, 11, 12};
    for (int n : sizes) {
      ThriceNets x = withStores(n);
      due("all of " + n, x.breaks((1 << n) - 1), 1);
      for (int bit = n; bit < 32; bit++) {
        due("bit " + bit + " of " + n, x.breaks(1 << bit), BAD);
      }
      due("-1 of " + n, x.breaks(-1), BAD);
      due("one that is not there with all that are, of " + n, x.breaks((1 << n + 1) - 1), BAD);
    }
    int[] more = {13, 14, 23, 24};
    for (int n : more) {
      ThriceNets x = withStores(n);
      due("none of " + n, x.breaks(0), NOT);
      due("one of " + n, x.breaks(1), NOT);
      due("the last of " + n, x.breaks(1 << n - 1), NOT);
      due("all of " + n, x.breaks((1 << n) - 1), NOT);
      for (int bit = n; bit < 32; bit++) {
        due("bit " + bit + " of " + n, x.breaks(1 << bit), BAD);
      }
      due("-1 of " + n, x.breaks(-1), BAD);
      due("the most of " + n, x.breaks(MOST), BAD);
    }
  }

  // ---- the best voters

  private static void leastPrice() {
    Due.says("of all sets that do so the one with the least PRICE together");
    ThriceNets x = ring(12);
    for (int s = 0; s < 12; s++) {
      x.price(s, 1000 - s);
    }
    due("the last is the cheapest", x.best(), 2048);
    x.price(5, 988);
    due("cheaper by one", x.best(), 32);
    x.price(5, 989);
    due("of like PRICE, the lesser bits", x.best(), 32);
    x.price(5, 990);
    due("dearer by one", x.best(), 2048);
    ThriceNets y = star(11);
    y.price(0, 12);
    due("eleven for 11 before one for 12", y.best(), 4094);
    ThriceNets z = star(11);
    z.price(0, 1000);
    for (int s = 1; s < 12; s++) {
      z.price(s, s == 11 ? 90 : 91);
    }
    due("one for 1000 before eleven for 1000", z.best(), 1);
    z.price(11, 89);
    due("eleven for 999 before one for 1000", z.best(), 4094);
  }

  /** STORE 0 takes from each of the others, and each of them from it: loops 0-1, 0-2 .. */
  private static ThriceNets star(int others) {
    ThriceNets x = withStores(others + 1);
    int all = 1;
    for (int s = 1; s <= others; s++) {
      x.feed(s, 0);
      all = s == 1 ? 1 : x.node(OR, all, s);
    }
    x.feed(0, all);
    return x;
  }

  private static void fewestOfLikePrice() {
    Due.says("of like ones the fewest");
    ThriceNets x = star(11);
    x.price(0, 11);
    due("one for 11 before eleven for 11", x.best(), 1);
    for (int s = 0; s < 12; s++) {
      x.price(s, 0);
    }
    due("all for nothing: one", x.best(), 1);
    ThriceNets y = row(12);
    for (int s = 0; s < 12; s++) {
      y.price(s, 0);
    }
    due("all for nothing and no loop: none", y.best(), 0);
    // Two loops, 0-2 and 1-2: STORE 2 for 2, or 0 and 1, which are lesser as bits.
    ThriceNets z = withStores(3);
    z.feed(0, 2);
    z.feed(1, 2);
    z.feed(2, z.node(OR, 0, 1));
    z.price(2, 2);
    due("fewer before lesser bits", z.best(), 4);
    z.price(2, 3);
    due("but less PRICE before fewer", z.best(), 3);
  }

  private static void leastBitsOfLikeOnes() {
    Due.says("then the least as bits by STORES' numbers");
    for (int n = 1; n <= 12; n++) {
      due("a ring of " + n, ring(n).best(), 1);
    }
    // Two rings of two: 0-3 and 1-2.
    ThriceNets x = withStores(4);
    x.feed(0, 3);
    x.feed(3, 0);
    x.feed(1, 2);
    x.feed(2, 1);
    due("the lesser of each", x.best(), 3);
    x.price(0, 2);
    due("and of the other", x.best(), 8 + 2);
    x.price(1, 2);
    due("the greater of each", x.best(), 8 + 4);
    // STORES' numbers, not NODES': the first STORE is NODE 2.
    ThriceNets y = withInputs(2);
    store(y);
    store(y);
    y.feed(2, 3);
    y.feed(3, 2);
    due("by STORES' numbers", y.best(), 1);
    y.price(2, 5);
    due("by STORES' PRICES", y.best(), 2);
  }

  private static void twelveAtMost() {
    Due.says("12 STORES at most are looked at (more: NOT).");
    for (int n = 0; n <= 24; n++) {
      ThriceNets x = withStores(n);
      boolean more = n > 12;
      due("best() of " + n, x.best(), more ? NOT : (1 << n) - 1);
      due("breaks(0) of " + n, x.breaks(0), more ? NOT : n == 0 ? 1 : 0);
      due("harden() of " + n, x.harden(), more ? NOT : n);
      due("THRICE of " + n, x.count(4), more ? 0 : n);
    }
  }

  private static void bestAnswers() {
    Due.says("THE BEST VOTERS as bits. NOT: above 12 STORES.");
    due("the empty net", new ThriceNets().best(), 0);
    due("no STORES", withInputs(24).best(), 0);
    due("no loops", row(12).best(), 0);
    ThriceNets x = withStores(12);
    due("all", x.best(), 4095);
    x.feed(11, input(x));
    due("all but the last", x.best(), 2047);
    x.feed(0, 12);
    due("all but the first, too", x.best(), 2046);
    for (int k = 13; k < 24; k++) {
      input(x);
    }
    due("12 STORES of 24 NODES", x.best(), 2046);
    ThriceNets y = withInputs(11);
    for (int s = 0; s < 13; s++) {
      store(y);
    }
    due("13 STORES of 24 NODES", y.best(), NOT);
  }

  private static void hardenAnswers() {
    Due.says("All NODES are THRICE, THE BEST VOTERS VOTED, no others: how many are VOTED.");
    due("the empty net", new ThriceNets().harden(), 0);
    ThriceNets x = withStores(12);
    for (int k = 12; k < 24; k++) {
      input(x);
    }
    x.feed(0, 12);
    x.feed(11, 10);
    x.thrice(0, true);
    x.vote(0, true);
    x.thrice(11, true);
    x.vote(11, true);
    due("ten", x.harden(), 10);
    due("all THRICE", x.count(4), 24);
    due("so many VOTED", x.count(5), 10);
    for (int node = 0; node < 24; node++) {
      due("VOTED " + node, x.about(node, 5), node >= 1 && node <= 10 ? 1 : 0);
      due("THRICE " + node, x.about(node, 4), 1);
    }
    due("once more", x.harden(), 10);
    x.feed(0, 0);
    due("one more then", x.harden(), 11);
    due("it is VOTED", x.about(0, 5), 1);
    ThriceNets y = withInputs(24);
    due("no STORES", y.harden(), 0);
    due("all THRICE", y.count(4), 24);
    ThriceNets z = ring(2);
    z.price(0, 2);
    due("the cheaper one", z.harden(), 1);
    due("VOTED", 10 * z.about(0, 5) + z.about(1, 5), 1);
    input(z);
    due("a NODE behind it is SINGLE", z.about(2, 4), 0);
    ThriceNets w = withInputs(12);
    for (int node = 12; node < 24; node++) {
      store(w);
      w.feed(node, node == 23 ? 23 : 0);
    }
    due("by STORES' numbers", w.harden(), 1);
    for (int node = 12; node < 24; node++) {
      due("VOTED is NODE 23 alone: " + node, w.about(node, 5), node == 23 ? 1 : 0);
    }
  }

  private static void hardenRefusals() {
    Due.says("how many are VOTED. NOT.");
    ThriceNets x = withStores(13);
    x.thrice(12, true);
    x.vote(12, true);
    x.thrice(3, true);
    long before = x.digest();
    due("13 STORES", x.harden(), NOT);
    due("which changes nothing", x.digest(), before);
    due("VOTED still", x.about(12, 5), 1);
    due("THRICE still", x.count(4), 2);
    due("24 STORES", withStores(24).harden(), NOT);
    due("12 STORES", withStores(12).harden(), 12);
  }

  // ---- costs

  private static void voterRange() {
    Due.says("of each VOTED STORE VOTER (0 to 1000; 1 at first) thrice.");
    ThriceNets x = withStores(1);
    x.price(0, 0);
    x.harden();
    due("1 at first", x.cost(), 3);
    due("0", x.voter(0), 1);
    due("it costs nothing", x.cost(), 0);
    due("-1", x.voter(-1), BAD);
    due("1000", x.voter(1000), 0);
    due("it costs the most", x.cost(), 3000);
    due("1001", x.voter(1001), BAD);
    due("it stands", x.count(8), 1000);
  }

  private static void voterAnswers() {
    Due.says("VOTER: what it was. BAD.");
    ThriceNets x = new ThriceNets();
    int[] none = {LEAST, -2, -1, 1001, 1002, MOST};
    for (int p : none) {
      due("voter(" + p + ")", x.voter(p), BAD);
      due("1 still", x.count(8), 1);
    }
    due("at first", x.voter(1000), 1);
    due("again", x.voter(1000), 1000);
    due("0", x.voter(0), 1000);
    due("behind 0", x.voter(1), 0);
  }

  private static void costOfNodes() {
    Due.says("COST: of each NODE its PRICE, thrice if it is THRICE");
    due("the empty net", new ThriceNets().cost(), 0);
    ThriceNets x = oneOfEachKind();
    for (int node = INPUT; node <= STORE; node++) {
      due("before NODE " + node, x.cost(), 6 + 299 * node);
      x.thrice(node, true);
      due("THRICE " + node, x.cost(), 6 + 299 * node + 2);
      x.price(node, 100);
      due("for 100", x.cost(), 6 + 299 * node + 299);
      x.price(node, 0);
      due("for nothing", x.cost(), 6 + 299 * node - 1);
      x.price(node, 100);
    }
    ThriceNets full = withInputs(24);
    due("24 for 1", full.cost(), 24);
    for (int node = 0; node < 24; node++) {
      full.price(node, 1000);
    }
    due("24 for 1000", full.cost(), 24000);
    allThrice(full);
    due("24 for 1000, THRICE", full.cost(), 72000);
    full.output(23, true);
    due("OUTPUTS cost nothing", full.cost(), 72000);
    full.voter(1000);
    due("nor do VOTERS where there is none", full.cost(), 72000);
  }

  private static void costOfVoters() {
    Due.says("and of each VOTED STORE VOTER");
    ThriceNets x = withStores(24);
    x.voter(1000);
    allThrice(x);
    due("none VOTED", x.cost(), 72);
    x.vote(0, true);
    due("the first", x.cost(), 3072);
    x.vote(23, true);
    due("the last, too", x.cost(), 6072);
    x.vote(0, false);
    due("one of them no more", x.cost(), 3072);
    x.thrice(23, false);
    due("SINGLE again", x.cost(), 70);
    allThrice(x);
    for (int node = 0; node < 24; node++) {
      x.price(node, 1000);
      x.vote(node, true);
    }
    due("the most that there can be", x.cost(), 24 * (3000 + 3000));
  }

  private static void slowWays() {
    Due.says("the greatest number of gates (NOT, AND, OR, XOR count 1 each");
    for (int kind = INVERTER; kind <= XOR; kind++) {
      ThriceNets x = withInputs(1);
      int gate = anyOf(x, kind);
      due("told by none, KIND " + kind, x.slow(), 0);
      x.output(gate, true);
      due("one gate, KIND " + kind, x.slow(), 1);
      ThriceNets y = withStores(1);
      for (int node = 1; node < 24; node++) {
        y.node(kind, node - 1, kind == INVERTER ? NONE : 0);
      }
      for (int node = 0; node < 24; node++) {
        y.output(node, true);
        due(node + " gates, KIND " + kind, y.slow(), node);
      }
      ThriceNets z = withStores(1);
      for (int node = 1; node < 24; node++) {
        z.node(kind, kind == INVERTER ? node - 1 : 0, kind == INVERTER ? NONE : node - 1);
      }
      z.feed(0, 23);
      due("23 gates by the second SOURCE, KIND " + kind, z.slow(), 23);
    }
    ThriceNets over = withStores(2);
    over.feed(0, over.node(INVERTER, 1, NONE));
    over.feed(1, over.node(INVERTER, 0, NONE));
    due("a way ends at a STORE", over.slow(), 1);
  }

  private static void slowVoted() {
    Due.says("a VOTED STORE 1 more at its end");
    ThriceNets x = withStores(1);
    due("itself", x.slow(), 0);
    x.thrice(0, true);
    due("THRICE", x.slow(), 0);
    x.vote(0, true);
    due("VOTED", x.slow(), 1);
    for (int node = 1; node < 24; node++) {
      x.node(INVERTER, node - 1, NONE);
    }
    due("gates that come to nothing", x.slow(), 1);
    x.feed(0, 1);
    due("VOTED behind one gate", x.slow(), 2);
    x.feed(0, 23);
    due("the most that there can be", x.slow(), 24);
    x.output(23, true);
    due("an OUTPUT has no more at its end", x.slow(), 24);
    x.vote(0, false);
    due("not VOTED", x.slow(), 23);
    x.feed(0, 0);
    x.vote(0, true);
    due("the OUTPUT's way is the longer one", x.slow(), 23);
    ThriceNets y = withStores(2);
    y.feed(1, y.node(INVERTER, 0, NONE));
    allThrice(y);
    y.vote(0, true);
    due("1 more where it is VOTED alone", y.slow(), 1);
    y.vote(1, true);
    due("and behind the gate", y.slow(), 2);
  }

  private static void slowOfNone() {
    Due.says("or to an OUTPUT (which may be that INPUT or STORE itself: 0).");
    due("the empty net", new ThriceNets().slow(), 0);
    ThriceNets x = withInputs(1);
    due("no OUTPUT", x.slow(), 0);
    x.output(0, true);
    due("an INPUT as OUTPUT", x.slow(), 0);
    ThriceNets y = withStores(1);
    y.output(0, true);
    due("a STORE as OUTPUT", y.slow(), 0);
    y.feed(0, input(y));
    due("a STORE of an INPUT", y.slow(), 0);
    int gate = y.node(INVERTER, 0, NONE);
    y.output(gate, true);
    due("a gate as OUTPUT", y.slow(), 1);
    y.output(gate, false);
    due("no more", y.slow(), 0);
  }
}
