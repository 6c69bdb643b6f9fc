import java.util.Arrays;
import java.util.Random;

/**
 * What the document's first line says of a net as a whole, and what its calls must then say of one
 * another, on nets drawn by a fixed seed.
 */
public final class WholeTests extends TestBase {
  private static final int NETS = 150, MOST_STORES = 12;

  private WholeTests() {
  }

  public static void main(String[] args) {
    Due.says("Circuits that bear any one flipped bit");
    for (int seed = 0; seed < NETS; seed++) {
      bearsAnyOneFlip(seed);
      twoFlipsOfOneLine(seed);
    }
    Due.says("parts made thrice or left single");
    for (int seed = 0; seed < NETS; seed++) {
      copiesAreAsThePlainNet(seed);
    }
    Due.says("the fewest that break each loop");
    for (int seed = 0; seed < NETS; seed++) {
      noVoterTooMany(seed);
      voted(seed);
    }
    Due.says("which flips are seen, which linger, which single parts never matter");
    for (int seed = 0; seed < NETS; seed++) {
      callsAgree(seed);
    }
    Due.says("what it all costs");
    for (int seed = 0; seed < NETS; seed++) {
      hardenedCosts(seed);
    }
    Due.end("WholeTests");
  }

  private static ThriceNets drawn(int seed) {
    Random random = new Random(seed);
    ThriceNets x = new ThriceNets();
    int size = 1 + random.nextInt(24);
    for (int node = 0; node < size; node++) {
      int kind = node == 0 ? INPUT : random.nextInt(6);
      if (kind == STORE && x.count(2) == MOST_STORES) {
        kind = XOR;
      }
      int a = kind == INPUT || kind == STORE ? NONE : random.nextInt(node);
      int b = kind == INPUT || kind == STORE || kind == INVERTER ? NONE : random.nextInt(node);
      due("node", x.node(kind, a, b), node);
    }
    for (int node = 0; node < size; node++) {
      if (x.about(node, 0) == STORE && random.nextInt(5) != 0) {
        x.feed(node, random.nextInt(size));
      }
      x.output(node, random.nextInt(4) == 0);
      x.price(node, random.nextInt(4));
      x.thrice(node, random.nextInt(3) == 0);
    }
    x.voter(random.nextInt(1001));
    x.sheet(0, INTS, 16);
    for (int tick = 0; tick < 16; tick++) {
      x.put(0, INTS, tick, random.nextInt());
    }
    return x;
  }

  private static void bearsAnyOneFlip(int seed) {
    ThriceNets x = drawn(seed);
    x.ticks(16);
    x.harden();
    due("net " + seed + ": no flip is SEEN", x.first(), NONE);
    due("net " + seed + ": none by many()", x.many(1) + x.many(3), 0);
    // A flip can go on only from STORE to STORE that are not VOTED, each but once, as these have
    // no loops: so behind 12 TICKS nothing is left of it.
    for (int node = 0; node < x.count(0); node++) {
      due("net " + seed + ": masked(" + node + ")", x.masked(node), 1);
      for (int c = 0; c < 3; c++) {
        due("net " + seed + ": flip(0, " + node + ", " + c + ")", x.flip(0, node, c), 0);
      }
    }
  }

  /** All THRICE: COPIES of one number take of one another alone, so the other two outvote them. */
  private static void twoFlipsOfOneLine(int seed) {
    Random random = new Random(seed);
    ThriceNets x = drawn(seed);
    x.harden();
    int size = x.count(0);
    for (int k = 0; k < 20; k++) {
      int c = k % 3;
      int node = random.nextInt(size);
      int other = random.nextInt(size);
      int answer = x.flips(random.nextInt(4), node, c, 4 + random.nextInt(4), other, c);
      Due.dueTrue("net " + seed + ": flips() in one line answered " + answer, answer == 0 || answer == 2);
    }
  }

  private static void copiesAreAsThePlainNet(int seed) {
    ThriceNets x = drawn(seed);
    for (int node = 0; node < x.count(0); node++) {
      int copies = x.about(node, 4) == 1 ? 3 : 1;
      int tick = (seed + node) % 16;
      for (int c = 0; c < copies; c++) {
        due("net " + seed + ": copy(" + node + ", " + c + ", " + tick + ")", x.copy(node, c, tick),
            x.plain(node, tick));
      }
      due("net " + seed + ": no COPY more", x.copy(node, copies, tick), BAD);
    }
  }

  private static void noVoterTooMany(int seed) {
    ThriceNets x = drawn(seed);
    int best = x.best();
    due("net " + seed + ": breaks(best())", x.breaks(best), 1);
    for (int s = 0; s < x.count(2); s++) {
      if ((best >> s & 1) == 1) {
        due("net " + seed + ": without " + s, x.breaks(best & ~(1 << s)), 0);
      } else {
        due("net " + seed + ": with " + s + " more", x.breaks(best | 1 << s), 1);
      }
      if (x.leads(s, s) == 1) {
        due("net " + seed + ": leads to itself " + s, best >> s & 1, 1);
      }
    }
  }

  private static void voted(int seed) {
    ThriceNets x = drawn(seed);
    int best = x.best();
    due("net " + seed + ": harden()", x.harden(), Integer.bitCount(best));
    for (int node = 0; node < x.count(0); node++) {
      boolean is = x.about(node, 0) == STORE && (best >> x.about(node, 7) & 1) == 1;
      due("net " + seed + ": VOTED " + node, x.about(node, 5), is ? 1 : 0);
    }
    due("net " + seed + ": best() still", x.best(), best);
  }

  private static void callsAgree(int seed) {
    ThriceNets x = drawn(seed);
    x.ticks(2);
    int[] found = new int[4];
    int first = NONE;
    int[] masked = new int[x.count(0)];
    Arrays.fill(masked, 1);
    for (int tick = 0; tick < 2; tick++) {
      for (int node = 0; node < masked.length; node++) {
        int copies = x.about(node, 4) == 1 ? 3 : 1;
        for (int c = 0; c < copies; c++) {
          int answer = x.flip(tick, node, c);
          found[answer]++;
          if (answer % 2 == 1) {
            masked[node] = 0;
            first = first == NONE ? 10000 * tick + 10 * node + c : first;
          }
        }
      }
    }
    for (int what = 0; what < 4; what++) {
      due("net " + seed + ": many(" + what + ")", x.many(what), found[what]);
    }
    due("net " + seed + ": all of them", found[0] + found[1] + found[2] + found[3],
        2 * (x.count(0) + 2 * x.count(4)));
    due("net " + seed + ": first()", x.first(), first);
    for (int node = 0; node < masked.length; node++) {
      due("net " + seed + ": masked(" + node + ")", x.masked(node), masked[node]);
    }
  }

  private static void hardenedCosts(int seed) {
    ThriceNets x = drawn(seed);
    int prices = 0;
    int thrices = 0;
    for (int node = 0; node < x.count(0); node++) {
      prices += x.about(node, 6);
      thrices += x.about(node, 4) * x.about(node, 6);
    }
    due("net " + seed + ": cost()", x.cost(), prices + 2 * thrices);
    int slow = x.slow();
    int voters = x.harden();
    due("net " + seed + ": hardened", x.cost(), 3 * prices + 3 * voters * x.count(8));
    Due.dueTrue("net " + seed + ": slower by a voter at most", x.slow() == slow || voters > 0 && x.slow() == slow + 1);
  }
}
