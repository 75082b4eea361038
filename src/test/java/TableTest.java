/** Promises 21 to 29: the table, and the checksum. */
public final class TableTest {
  private static final int SET = 0;
  private static final int START = 2;
  private static final int STOP = 3;
  private static final int EMIT = 4;

  public static void main(String[] args) {
    compileMakesATable();
    leavesOutWhatIsNotReached();
    joinsStatesThatFollowOneAnother();
    splitsAlongAChain();
    whatTellsStatesApart();
    whatHasNoMeaningTellsNothingApart();
    numbersClassesBySmallestState();
    laysRowsIntoOneAnother();
    laysFullRows();
    noUsedCells();
    makesTheTableAnew();
    whatWasDroppedTellsNothingApart();
    asksForATable();
    asksForAClass();
    digest();
    Check.end();
  }

  private static void compileMakesATable() {
    ProtocolMachine m = new ProtocolMachine();
    Check.due("isCompiled()", m.isCompiled(), false);
    Check.due("compile()", m.compile(), 1);
    Check.due("isCompiled() then", m.isCompiled(), true);
    Check.due("compile() again", m.compile(), 1);
    m.addState();
    Check.link(m, 0, 2, 1);
    Check.due("compile() of 2", m.compile(), 2);
    Check.due("compile() of 2 again", m.compile(), 2);
  }

  private static void leavesOutWhatIsNotReached() {
    ProtocolMachine m = new ProtocolMachine();
    Check.addStates(m, 5);
    // Backwards, so that a single pass over the transitions does not find them all.
    Check.link(m, 4, 0, 3);
    Check.link(m, 3, 1, 5);
    m.addTransition(0, 2, 0, 0, -1000, 4);
    Check.link(m, 2, 0, 1);
    Check.link(m, 1, 0, 0);
    Check.due("compile()", m.compile(), 4);
    int[] want = {0, -1, -1, 1, 2, 3};
    for (int s = 0; s < 6; s++) {
      Check.due("classOf(" + s + ")", m.classOf(s), want[s]);
    }
    Check.due("a row that is left out is not laid", m.tableSize(), 3);
  }

  private static void joinsStatesThatFollowOneAnother() {
    ProtocolMachine m = new ProtocolMachine();
    Check.addStates(m, 2);
    Check.link(m, 0, 0, 1);
    Check.link(m, 1, 0, 2);
    Check.link(m, 2, 0, 0);
    Check.due("a ring of 3", m.compile(), 1);
    for (int s = 0; s < 3; s++) {
      Check.due("classOf(" + s + ")", m.classOf(s), 0);
    }
    Check.due("used(0)", m.used(0), 1);
  }

  private static void splitsAlongAChain() {
    ProtocolMachine m = new ProtocolMachine();
    Check.addStates(m, 11);
    for (int s = 0; s < 11; s++) {
      Check.link(m, s, 0, s + 1);
    }
    Check.due("a chain of 12", m.compile(), 12);
    for (int s = 0; s < 12; s++) {
      Check.due("classOf(" + s + ")", m.classOf(s), s);
    }
    Check.link(m, 11, 0, 11);
    Check.due("a chain that ends in a ring", m.compile(), 1);
  }

  /** States 1 and 2 with one transition each, both reached from state 0. */
  private static ProtocolMachine twins() {
    ProtocolMachine m = new ProtocolMachine();
    Check.addStates(m, 2);
    Check.link(m, 0, 0, 1);
    Check.link(m, 0, 1, 2);
    return m;
  }

  private static void apart(String what, ProtocolMachine m) {
    Check.due(what, m.compile(), 3);
  }

  private static void whatTellsStatesApart() {
    int[][] guards = {{-1, 0, 0}, {0, 0, 5}, {1, 0, 5}, {0, 1, 5}, {0, 0, 6}};
    for (int[] one : guards) {
      for (int[] other : guards) {
        ProtocolMachine m = twins();
        m.addTransition(1, 3, one[0], one[1], one[2], 0);
        m.addTransition(2, 3, other[0], other[1], other[2], 0);
        Check.due("guards " + one[0] + " " + other[0], m.compile(), one == other ? 2 : 3);
      }
    }
    int[][] actions = {
      {0, 0, 5}, {0, 1, 5}, {0, 0, 6}, {1, 0, 5}, {2, 0, 5}, {2, 0, 6}, {3, 0, 0}, {4, 0, 0}, {4, 1, 0}
    };
    for (int[] one : actions) {
      for (int[] other : actions) {
        ProtocolMachine m = twins();
        m.addAction(Check.link(m, 1, 3, 0), one[0], one[1], one[2]);
        m.addAction(Check.link(m, 2, 3, 0), other[0], other[1], other[2]);
        Check.due("actions " + one[0] + " " + other[0], m.compile(), one == other ? 2 : 3);
      }
    }
    tellsApartByOrderAndNumber();
  }

  private static void tellsApartByOrderAndNumber() {
    ProtocolMachine m = twins();
    m.addAction(Check.link(m, 1, 3, 0), EMIT, 1, 0);
    m.addAction(2, EMIT, 2, 0);
    m.addAction(Check.link(m, 2, 3, 0), EMIT, 2, 0);
    m.addAction(3, EMIT, 1, 0);
    apart("actions in another order", m);
    m = twins();
    m.addAction(Check.link(m, 1, 3, 0), EMIT, 1, 0);
    Check.link(m, 2, 3, 0);
    apart("another number of actions", m);
    m = twins();
    m.addTransition(1, 3, 0, 0, 5, 0);
    m.addTransition(1, 3, 0, 0, 6, 0);
    m.addTransition(2, 3, 0, 0, 6, 0);
    m.addTransition(2, 3, 0, 0, 5, 0);
    apart("transitions in another order", m);
    m = twins();
    Check.link(m, 1, 3, 0);
    Check.link(m, 2, 3, 0);
    Check.link(m, 2, 3, 0);
    apart("another number of transitions", m);
    m = twins();
    Check.link(m, 1, 3, 0);
    Check.link(m, 2, 4, 0);
    apart("another event", m);
    m = twins();
    Check.link(m, 1, 3, 0);
    Check.link(m, 2, 3, 1);
    apart("a next state in another class", m);
    m = twins();
    m.addTransition(1, 3, 0, 0, -999, 0);
    m.addTransition(2, 3, 0, 1, -1000, 0);
    apart("guards that are written in another way", m);
    m = twins();
    for (int n = 0; n < 18; n++) {
      Check.link(m, 1, 3, 0);
      Check.link(m, 2, 3, 0);
    }
    Check.link(m, 1, 3, 0);
    Check.due("19 and 18 transitions", m.compile(), 3);
    Check.link(m, 2, 3, 0);
    Check.due("19 and 19 transitions", m.compile(), 2);
  }

  private static void whatHasNoMeaningTellsNothingApart() {
    ProtocolMachine m = twins();
    m.addTransition(1, 3, -1, 2, 7, 0);
    m.addTransition(2, 3, -1, 99, -7777, 0);
    m.addAction(2, STOP, 1, 5);
    m.addAction(3, STOP, 1, -6);
    m.addAction(2, EMIT, 1, 5);
    m.addAction(3, EMIT, 1, -6);
    Check.due("guards that are none, b of STOP and EMIT", m.compile(), 2);
    m = twins();
    Check.link(m, 1, 3, 0);
    Check.link(m, 2, 4, 0);
    Check.link(m, 2, 3, 0);
    Check.link(m, 1, 4, 0);
    Check.due("the order of different events", m.compile(), 2);
    m = twins();
    Check.link(m, 1, 3, 1);
    Check.link(m, 2, 3, 1);
    Check.due("next states in one class", m.compile(), 2);
  }

  private static void numbersClassesBySmallestState() {
    ProtocolMachine m = new ProtocolMachine();
    Check.addStates(m, 5);
    Check.link(m, 0, 0, 5);
    Check.link(m, 0, 1, 4);
    Check.link(m, 0, 2, 3);
    Check.link(m, 0, 3, 2);
    Check.link(m, 5, 6, 5);
    Check.link(m, 3, 6, 3);
    Check.link(m, 4, 7, 0);
    Check.link(m, 2, 7, 0);
    Check.due("compile()", m.compile(), 3);
    int[] want = {0, -1, 1, 2, 1, 2};
    for (int s = 0; s < 6; s++) {
      Check.due("classOf(" + s + ")", m.classOf(s), want[s]);
    }
  }

  private static void laysRowsIntoOneAnother() {
    ProtocolMachine m = new ProtocolMachine();
    Check.addStates(m, 3);
    // Row 0: cells 1, 4. Row 1: cells 0, 2, 3. Row 2: cell 2. Row 3: cells 1, 4.
    Check.link(m, 0, 1, 1);
    Check.link(m, 0, 4, 2);
    Check.link(m, 1, 0, 3);
    Check.link(m, 1, 2, 3);
    Check.link(m, 1, 3, 3);
    Check.link(m, 2, 2, 2);
    Check.link(m, 3, 1, 3);
    Check.link(m, 3, 4, 3);
    Check.due("compile()", m.compile(), 4);
    int[] offsets = {0, 0, 4, 4};
    int[] used = {2, 3, 1, 2};
    for (int c = 0; c < 4; c++) {
      Check.due("offset(" + c + ")", m.offset(c), offsets[c]);
      Check.due("used(" + c + ")", m.used(c), used[c]);
    }
    int[] owners = {1, 0, 1, 1, 0, 3, 2, -1, 3};
    Check.due("tableSize()", m.tableSize(), 9);
    for (int cell = 0; cell < 9; cell++) {
      Check.due("owner(" + cell + ")", m.owner(cell), owners[cell]);
    }
    Check.due("density()", m.density(), 8.0 / 9.0);
    Check.noIndex("owner(9)", m, () -> m.owner(9));
    Check.noIndex("owner(-1)", m, () -> m.owner(-1));
  }

  private static void laysFullRows() {
    ProtocolMachine m = new ProtocolMachine();
    Check.addStates(m, 4);
    for (int s = 0; s < 5; s++) {
      for (int event = 0; event < 8; event++) {
        int t = Check.link(m, s, event, (s + 1) % 5);
        m.addAction(t, SET, 0, s);
      }
    }
    Check.due("compile()", m.compile(), 5);
    for (int c = 0; c < 5; c++) {
      Check.due("offset(" + c + ")", m.offset(c), 8 * c);
      Check.due("used(" + c + ")", m.used(c), 8);
    }
    Check.due("tableSize()", m.tableSize(), 40);
    Check.due("density()", m.density(), 1.0);
  }

  private static void noUsedCells() {
    ProtocolMachine m = new ProtocolMachine();
    m.compile();
    Check.due("used(0)", m.used(0), 0);
    Check.due("offset(0)", m.offset(0), 0);
    Check.due("tableSize()", m.tableSize(), 0);
    Check.due("density()", m.density(), 1.0);
    Check.noIndex("owner(0)", m, () -> m.owner(0));
    m.addState();
    Check.link(m, 0, 0, 1);
    m.compile();
    Check.due("an empty row stands at 0", m.offset(1), 0);
    Check.due("an empty row owns nothing", m.owner(0), 0);
    m.drop();
    Check.link(m, 0, 7, 0);
    m.compile();
    Check.due("tableSize() with event 7 alone", m.tableSize(), 8);
    Check.due("owner(0) with event 7 alone", m.owner(0), -1);
    Check.due("density() with event 7 alone", m.density(), 0.125);
  }

  /** Nothing of an earlier table may be left in a later one. */
  private static void makesTheTableAnew() {
    ProtocolMachine m = new ProtocolMachine();
    Check.addStates(m, 2);
    Check.link(m, 0, 0, 1);
    Check.due("a chain of 2", m.compile(), 2);
    Check.link(m, 1, 0, 2);
    Check.due("a chain of 3", m.compile(), 3);
    Check.due("tableSize() of a chain of 3", m.tableSize(), 2);
    Check.due("offset(1) of a chain of 3", m.offset(1), 1);
    m.drop();
    m.compile();
    Check.due("tableSize() of a chain of 2", m.tableSize(), 1);
    Check.due("offset(1) of a chain of 2", m.offset(1), 0);
    Check.due("used(1) of a chain of 2", m.used(1), 0);
    Check.due("density() of a chain of 2", m.density(), 1.0);
    Check.due("classOf(2) of a chain of 2", m.classOf(2), -1);
  }

  private static void whatWasDroppedTellsNothingApart() {
    ProtocolMachine m = twins();
    m.addTransition(1, 3, 0, 2, 7, 0);
    m.addAction(2, EMIT, 1, 0);
    m.drop();
    Check.link(m, 1, 3, 0);
    Check.link(m, 2, 3, 0);
    Check.due("a guard and an action of a dropped one", m.compile(), 2);
    m.addAction(2, EMIT, 2, 0);
    apart("an action in place of the dropped one", m);
  }

  private static void asksForATable() {
    ProtocolMachine m = new ProtocolMachine();
    int[] numbers = {-1, 0, 99, Integer.MIN_VALUE, Integer.MAX_VALUE};
    for (int n : numbers) {
      Check.noState("classOf(" + n + ")", m, () -> m.classOf(n));
      Check.noState("offset(" + n + ")", m, () -> m.offset(n));
      Check.noState("used(" + n + ")", m, () -> m.used(n));
      Check.noState("owner(" + n + ")", m, () -> m.owner(n));
    }
    Check.noState("tableSize()", m, m::tableSize);
    Check.noState("density()", m, m::density);
  }

  private static void asksForAClass() {
    ProtocolMachine m = twins();
    Check.due("compile()", m.compile(), 2);
    int[] noClasses = {-1, 2, 12, Integer.MIN_VALUE, Integer.MAX_VALUE};
    for (int n : noClasses) {
      Check.noIndex("offset(" + n + ")", m, () -> m.offset(n));
      Check.noIndex("used(" + n + ")", m, () -> m.used(n));
    }
    Check.due("classOf(2)", m.classOf(2), 1);
    int[] noStates = {-1, 3, 12, Integer.MIN_VALUE, Integer.MAX_VALUE};
    for (int s : noStates) {
      Check.noIndex("classOf(" + s + ")", m, () -> m.classOf(s));
    }
  }

  private static long sum(long... numbers) {
    long d = 127;
    for (long x : numbers) {
      d = d * 31 + x;
    }
    return d;
  }

  private static void digest() {
    ProtocolMachine m = new ProtocolMachine();
    Check.due("digest() of a new one", m.digest(), sum(1, 0, 0, 0, 0, 0, 0, -1, -1, -1, -1, 0, 0));
    Check.addStates(m, 2);
    Check.link(m, 0, 5, 2);
    m.addAction(0, SET, 1, -8);
    m.addAction(0, START, 2, 30);
    m.addAction(0, EMIT, 9, 0);
    Check.link(m, 2, 5, 1);
    m.happen(5);
    m.advance(12);
    m.happen(0);
    m.happen(1);
    Check.due(
        "digest()",
        m.digest(),
        sum(3, 2, 0, 5, 2, 3, 1, 2, 5, 1, 0, 0, 2, 12, 0, -8, 0, -1, -1, 18, -1, 1, 2));
    m.compile();
    Check.due(
        "digest() with a table",
        m.digest(),
        sum(
            3, 2, 0, 5, 2, 3, 1, 2, 5, 1, 0, 0, 2, 12, 0, -8, 0, -1, -1, 18, -1, 1, 2, 3, 0, 0,
            1));
  }
}
