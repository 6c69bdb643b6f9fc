import java.util.ArrayList;
import java.util.List;
import java.util.function.ToLongFunction;

/**
 * Refusals, the first that fits, and that they change nothing. Each refused call is made on one of
 * two objects that were made alike; then both are asked for all that can be told of them.
 */
public final class RefusalTests extends TestBase {
  /** What a call is due to answer, and the number of the FINDING that it is; 0: it is none. */
  private record Call(String name, ToLongFunction<ThriceNets> made, long due, int finding) {
  }

  private static final List<Call> calls = new ArrayList<>();

  private RefusalTests() {
  }

  public static void main(String[] args) {
    firstThatFits();
    badOnTheSmallNet();
    badNumbersOfSheets();
    findings();
    Due.says("They change nothing (FINDINGS but count() 6).");
    changeNothing(0);
    changeNothing(4);
    refusedByTheFullNet();
    changeNothingOfTheFullNet();
    soAlready();
    Due.says("Nothing is promised beyond the answers and state changes described above");
    changeNothing(5);
    Due.end("RefusalTests");
  }

  private static void refused(String name, ToLongFunction<ThriceNets> made, long due) {
    calls.add(new Call(name, made, due, 0));
  }

  private static void found(String name, ToLongFunction<ThriceNets> made, long due, int number) {
    calls.add(new Call(name, made, due, number));
  }

  // ---- the first that fits

  private static void firstThatFits() {
    Due.says("Refusals, the first that fits: BAD -2 (a number not as told, no such thing), NOT -3, FULL -4 (as told), FINDINGS.");
    due("BAD", ThriceNets.BAD, -2);
    due("NOT", ThriceNets.NOT, -3);
    due("FULL", ThriceNets.FULL, -4);
    due("NONE", ThriceNets.NONE, -1);
    ThriceNets full = fullNet();
    due("BAD before FULL", full.node(AND, 0, 24), BAD);
    due("FULL", full.node(AND, 0, 23), FULL);
    due("BAD before NOT: no STORE that is SINGLE", full.vote(13, true), BAD);
    due("BAD before NOT: bits of 13 STORES", full.breaks(1 << 13), BAD);
    due("NOT: bits of 13 STORES", full.breaks(1 << 12), NOT);
    ThriceNets x = smallNet();
    due("BAD before SIZE: SHEET", x.sheet(4, BYTES, -1), BAD);
    due("BAD before SIZE: FORM", x.sheet(0, 3, -1), BAD);
    due("BAD before NULL: FORM", x.put(3, 3, 0, 0), BAD);
    due("BAD before CAST: FORM", x.put(0, 3, 0, 0), BAD);
    due("BAD before INDEX: SHEET", x.put(4, BYTES, 99, 0), BAD);
    due("BAD before NULL: the other SHEET", x.move(3, 0, 4, 0, 1), BAD);
    due("BAD before STORE: SHEET", x.move(-1, 0, 1, 0, 1), BAD);
    due("BAD before INDEX: the other SHEET", x.move(0, 99, 4, 0, 1), BAD);
    due("no FINDING by these", x.count(6), 0);
    due("NULL before CAST and INDEX", x.put(3, BYTES, 99, 0), NULL);
    due("CAST before INDEX", x.put(0, SHORTS, 99, 0), CAST);
    due("INDEX", x.put(0, BYTES, 99, 0), INDEX);
    due("NULL before STORE and INDEX", x.move(0, 99, 3, 0, 1), NULL);
    due("STORE before INDEX", x.move(0, 99, 1, 0, 1), UNLIKE);
    due("INDEX in a move", x.move(0, 99, 0, 0, 1), INDEX);
  }

  // ---- objects to be refused by

  /** INPUT 0, STORES 1 and 2, gates 3 and 4, INPUT 5; SHEETS 0 to 2 of the three FORMS, 3 LOST. */
  private static ThriceNets smallNet() {
    ThriceNets x = withInputs(1);
    store(x);
    store(x);
    x.node(XOR, 0, 1);
    x.node(INVERTER, 3, NONE);
    input(x);
    x.feed(1, 4);
    x.output(3, true);
    x.thrice(1, true);
    x.vote(1, true);
    x.thrice(4, true);
    x.price(2, 30);
    x.ticks(5);
    x.voter(6);
    for (int s = 0; s < 3; s++) {
      x.sheet(s, s, 4);
      for (int i = 0; i < 4; i++) {
        x.put(s, s, i, 10 * s + i + 1);
      }
    }
    return x;
  }

  /** STORES 0 to 12, gates 13 to 22, INPUT 23. */
  private static ThriceNets fullNet() {
    ThriceNets x = withStores(13);
    for (int node = 13; node < 23; node++) {
      x.node(OR, node - 13, node - 1);
    }
    input(x);
    x.feed(0, 22);
    x.feed(12, 23);
    x.thrice(3, true);
    x.vote(3, true);
    x.thrice(23, true);
    x.output(22, true);
    return x;
  }

  /** A FINDING of this number, for it to be the latest; 0: none. */
  private static ThriceNets withFinding(ThriceNets x, int number) {
    if (number == 4) {
      x.move(0, 0, 1, 0, 0);
    } else if (number == 5) {
      x.sheet(0, BYTES, -1);
    }
    return x;
  }

  /** All that can be told of an object; the last of it is asked by losing its SHEETS. */
  private static List<Long> state(ThriceNets x) {
    List<Long> all = new ArrayList<>();
    for (int what = 0; what <= 8; what++) {
      all.add((long) (what == 6 ? 0 : x.count(what)));
    }
    all.add(x.digest());
    for (int node = 0; node < x.count(0); node++) {
      for (int what = 0; what <= 7; what++) {
        all.add((long) x.about(node, what));
      }
      all.add((long) x.plain(node, 1));
      all.add((long) x.plain(node, 15));
    }
    // From here on the latest FINDING is the same in both.
    all.add((long) x.sheet(0, BYTES, -1));
    for (int s = 0; s < 4; s++) {
      for (int form = BYTES; form <= INTS; form++) {
        all.add((long) x.get(s, form, 0));
        all.add((long) x.count(6));
      }
      for (int i = 1; i < 5; i++) {
        all.add((long) x.get(s, s % 3, i));
      }
      all.add((long) x.lose(s));
    }
    return all;
  }

  /** Each call that was named, on a small net whose latest FINDING is this. */
  private static void changeNothing(int latest) {
    for (Call call : calls) {
      ThriceNets x = withFinding(smallNet(), latest);
      ThriceNets like = withFinding(smallNet(), latest);
      dueNoChange(call, x, like, latest);
    }
  }

  private static void dueNoChange(Call call, ThriceNets x, ThriceNets like, int latest) {
    due("the latest FINDING", x.count(6), latest);
    due(call.name, call.made.applyAsLong(x), call.due);
    due("count(6) behind " + call.name, x.count(6), call.finding == 0 ? latest : call.finding);
    Due.dueTrue("all stands behind " + call.name, state(x).equals(state(like)));
  }

  // ---- what is refused

  private static void badOnTheSmallNet() {
    int[] noNode = {LEAST, -2, -1, 6, 24, MOST};
    for (int n : noNode) {
      refused("node of SOURCE " + n, x -> x.node(AND, n, 0), BAD);
      refused("node of second SOURCE " + n, x -> x.node(AND, 0, n), BAD);
      refused("node of one SOURCE " + n, x -> x.node(INVERTER, n, NONE), BAD);
      refused("feed of NODE " + n, x -> x.feed(n, 0), BAD);
      refused("feed by NODE " + n, x -> x.feed(1, n), BAD);
      refused("output of NODE " + n, x -> x.output(n, true), BAD);
      refused("price of NODE " + n, x -> x.price(n, 5), BAD);
      refused("about NODE " + n, x -> x.about(n, 0), BAD);
      refused("thrice of NODE " + n, x -> x.thrice(n, true), BAD);
      refused("vote of NODE " + n, x -> x.vote(n, true), BAD);
      refused("plain of NODE " + n, x -> x.plain(n, 0), BAD);
      refused("copy of NODE " + n, x -> x.copy(n, 0, 0), BAD);
      refused("flip of NODE " + n, x -> x.flip(0, n, 0), BAD);
      refused("flips of NODE " + n, x -> x.flips(0, n, 0, 0, 0, 0), BAD);
      refused("flips of other NODE " + n, x -> x.flips(0, 0, 0, 0, n, 0), BAD);
      refused("masked of NODE " + n, x -> x.masked(n), BAD);
    }
    int[] noTick = {LEAST, -1, 5, 16, MOST};
    for (int t : noTick) {
      refused("flip in TICK " + t, x -> x.flip(t, 0, 0), BAD);
      refused("flips in TICK " + t, x -> x.flips(t, 0, 0, 0, 1, 0), BAD);
      refused("flips in other TICK " + t, x -> x.flips(0, 0, 0, t, 1, 0), BAD);
      refused("pairs in TICK " + t, x -> x.pairs(t), BAD);
    }
    badKindsAndNumbers();
  }

  private static void badKindsAndNumbers() {
    int[] noKind = {LEAST, -1, 6, MOST};
    for (int k : noKind) {
      refused("node of KIND " + k, x -> x.node(k, NONE, NONE), BAD);
      refused("node of KIND " + k + " with SOURCES", x -> x.node(k, 0, 0), BAD);
      refused("many(" + k + ")", x -> x.many(k), BAD);
      refused("leads(" + k + ", 0)", x -> x.leads(k, 0), BAD);
      refused("leads(0, " + k + ")", x -> x.leads(0, k), BAD);
      refused("breaks(" + k + ")", x -> x.breaks(k), BAD);
    }
    int[] none = {LEAST, -1, 1001, MOST};
    for (int p : none) {
      refused("price " + p, x -> x.price(0, p), BAD);
      refused("voter " + p, x -> x.voter(p), BAD);
      refused("ticks " + p, x -> x.ticks(p), BAD);
      refused("about what " + p, x -> x.about(0, p), BAD);
      refused("count " + p, x -> x.count(p), BAD);
      refused("plain in TICK " + p, x -> x.plain(0, p), BAD);
      refused("copy in TICK " + p, x -> x.copy(0, 0, p), BAD);
      refused("copy " + p, x -> x.copy(1, p, 0), BAD);
      refused("flip of COPY " + p, x -> x.flip(0, 1, p), BAD);
      refused("flips of COPY " + p, x -> x.flips(0, 1, p, 0, 0, 0), BAD);
    }
    refused("ticks(0)", x -> x.ticks(0), BAD);
    refused("ticks(17)", x -> x.ticks(17), BAD);
    refused("many(4)", x -> x.many(4), BAD);
    refused("leads(2, 0)", x -> x.leads(2, 0), BAD);
    refused("breaks(4)", x -> x.breaks(4), BAD);
    refused("about(0, 8)", x -> x.about(0, 8), BAD);
    refused("count(9)", x -> x.count(9), BAD);
    refused("a STORE with a SOURCE", x -> x.node(STORE, 0, NONE), BAD);
    refused("an INPUT with a SOURCE", x -> x.node(INPUT, 0, NONE), BAD);
    refused("feed of an INPUT", x -> x.feed(0, 3), BAD);
    refused("feed of a gate", x -> x.feed(3, 1), BAD);
    refused("vote of an INPUT", x -> x.vote(0, true), BAD);
    refused("vote of a gate that is THRICE", x -> x.vote(4, true), BAD);
    refused("vote of a SINGLE STORE", x -> x.vote(2, true), NOT);
    refused("no vote of a SINGLE STORE", x -> x.vote(2, false), NOT);
    refused("COPY 1 of a SINGLE NODE", x -> x.flip(0, 0, 1), BAD);
    refused("the same twice", x -> x.flips(0, 0, 0, 0, 0, 0), BAD);
  }

  private static void badNumbersOfSheets() {
    int[] none = {LEAST, -1, 4, MOST};
    for (int s : none) {
      refused("sheet " + s, x -> x.sheet(s, BYTES, 1), BAD);
      refused("sheet " + s + " below 0", x -> x.sheet(s, BYTES, -1), BAD);
      refused("lose " + s, x -> x.lose(s), BAD);
      refused("put in SHEET " + s, x -> x.put(s, BYTES, 0, 9), BAD);
      refused("get from SHEET " + s, x -> x.get(s, BYTES, 0), LEAST);
      refused("move from SHEET " + s, x -> x.move(s, 0, 0, 0, 1), BAD);
      refused("move to SHEET " + s, x -> x.move(0, 0, s, 0, 1), BAD);
      refused("move from SHEET " + s + " to a LOST one", x -> x.move(s, 0, 3, 0, 1), BAD);
    }
    int[] noForm = {LEAST, -1, 3, MOST};
    for (int form : noForm) {
      refused("sheet of FORM " + form, x -> x.sheet(0, form, 1), BAD);
      refused("sheet of FORM " + form + " below 0", x -> x.sheet(0, form, -1), BAD);
      refused("put as FORM " + form, x -> x.put(0, form, 0, 9), BAD);
      refused("put as FORM " + form + " in a LOST one", x -> x.put(3, form, 0, 9), BAD);
      refused("get as FORM " + form, x -> x.get(0, form, 0), LEAST);
    }
    refused("61 items", x -> x.sheet(0, BYTES, 61), BAD);
    refused("the most items", x -> x.sheet(0, BYTES, MOST), BAD);
    refused("61 items of a LOST one", x -> x.sheet(3, BYTES, 61), BAD);
  }

  private static void findings() {
    found("SIZE", x -> x.sheet(0, BYTES, -1), SIZE, 5);
    found("SIZE of a LOST one", x -> x.sheet(3, INTS, LEAST), SIZE, 5);
    found("lose a LOST one", x -> x.lose(3), NULL, 1);
    found("put in a LOST one", x -> x.put(3, BYTES, 0, 9), NULL, 1);
    found("get from a LOST one", x -> x.get(3, BYTES, 0), LEAST, 1);
    found("move from a LOST one", x -> x.move(3, 0, 0, 0, 1), NULL, 1);
    found("move to a LOST one", x -> x.move(0, 0, 3, 0, 1), NULL, 1);
    found("put as another FORM", x -> x.put(0, INTS, 0, 9), CAST, 3);
    found("get as another FORM", x -> x.get(2, BYTES, 0), LEAST, 3);
    found("move to another FORM", x -> x.move(0, 0, 1, 0, 4), UNLIKE, 4);
    int[] noItem = {LEAST, -1, 4, 59, MOST};
    for (int i : noItem) {
      found("put in item " + i, x -> x.put(1, SHORTS, i, 9), INDEX, 2);
      found("get of item " + i, x -> x.get(1, SHORTS, i), LEAST, 2);
      found("move from item " + i, x -> x.move(1, i, 1, 0, 1), INDEX, 2);
      found("move to item " + i, x -> x.move(1, 0, 1, i, 1), INDEX, 2);
    }
    found("move of five", x -> x.move(1, 0, 1, 0, 5), INDEX, 2);
    found("move of four from the second", x -> x.move(1, 1, 1, 0, 4), INDEX, 2);
    found("move of four to the second", x -> x.move(1, 0, 1, 1, 4), INDEX, 2);
    found("move of less than none", x -> x.move(1, 0, 1, 1, -1), INDEX, 2);
  }

  private static void refusedByTheFullNet() {
    calls.clear();
    for (int kind = INPUT; kind <= STORE; kind++) {
      int any = kind;
      refused("a 25th NODE of KIND " + kind, x -> anyOf(x, any), FULL);
    }
    refused("a 25th NODE that is BAD", x -> x.node(XOR, 24, 0), BAD);
    refused("breaks(0) of 13", x -> x.breaks(0), NOT);
    refused("breaks(8191) of 13", x -> x.breaks(8191), NOT);
    refused("breaks(8192) of 13", x -> x.breaks(8192), BAD);
    refused("best() of 13", x -> x.best(), NOT);
    refused("harden() of 13", x -> x.harden(), NOT);
    refused("vote of a SINGLE STORE", x -> x.vote(12, true), NOT);
    refused("vote of the INPUT", x -> x.vote(23, true), BAD);
    refused("output of NODE 24", x -> x.output(24, true), BAD);
    refused("thrice of NODE 24", x -> x.thrice(24, true), BAD);
    refused("price of NODE 24", x -> x.price(24, 1), BAD);
    refused("feed by NODE 24", x -> x.feed(0, 24), BAD);
  }

  private static void changeNothingOfTheFullNet() {
    for (Call call : calls) {
      dueNoChange(call, fullNet(), fullNet(), 0);
    }
  }

  /** What is so already, and questions: they change nothing, either. */
  private static void soAlready() {
    calls.clear();
    refused("THRICE already", x -> x.thrice(1, true), 0);
    refused("SINGLE already", x -> x.thrice(0, false), 0);
    refused("VOTED already", x -> x.vote(1, true), 0);
    refused("an OUTPUT already", x -> x.output(3, true), 1);
    refused("none already", x -> x.output(0, false), 1);
    refused("its PRICE already", x -> x.price(2, 30), 30);
    refused("its SOURCE already", x -> x.feed(1, 4), 4);
    refused("T already", x -> x.ticks(5), 5);
    refused("VOTER already", x -> x.voter(6), 6);
    refused("a move of none", x -> x.move(0, 4, 0, 4, 0), 1);
    refused("a move to where they are", x -> x.move(0, 0, 0, 0, 4), 1);
    refused("an item as it is", x -> x.put(0, BYTES, 0, 1), 1);
    refused("about", x -> x.about(1, 5), 1);
    refused("plain", x -> x.plain(0, 0), 1);
    refused("copy", x -> x.copy(1, 2, 0), 0);
    refused("flip", x -> x.flip(0, 0, 0), 3);
    refused("flips", x -> x.flips(0, 1, 0, 0, 1, 1), 3);
    refused("many", x -> x.many(0) + x.many(1) + x.many(2) + x.many(3), 5 * 10);
    refused("first", x -> x.first(), 0);
    refused("masked", x -> x.masked(1), 1);
    refused("pairs", x -> Math.min(x.pairs(4), 1), 1);
    refused("leads", x -> x.leads(0, 0), 1);
    refused("breaks", x -> x.breaks(2), 0);
    refused("best", x -> x.best(), 3);
    refused("cost", x -> x.cost(), 1 + 3 + 18 + 30 + 1 + 3 + 1);
    refused("slow", x -> x.slow(), 3);
    refused("get", x -> x.get(1, SHORTS, 3), 14);
    refused("count", x -> x.count(0), 6);
    refused("digest", x -> x.digest() == x.digest() ? 1 : 0, 1);
  }
}
