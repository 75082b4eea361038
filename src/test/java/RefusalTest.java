import java.util.List;

/**
 * "A method that throws an exception changes nothing. If several exceptions apply, the one that is
 * named first is thrown." Each call that is refused, on objects that are new, busy and full, with
 * and without a table; and beside it the last call that is not refused.
 */
public final class RefusalTest {
  private static final Class<IndexOutOfBoundsException> INDEX = IndexOutOfBoundsException.class;
  private static final Class<IllegalArgumentException> ARGUMENT = IllegalArgumentException.class;
  private static final Class<IllegalStateException> STATE = IllegalStateException.class;

  private static final int LEAST = Integer.MIN_VALUE;
  private static final int MOST = Integer.MAX_VALUE;

  /** An object and what is in it; the classes and the size are -1 if there is no table. */
  private record Case(
      String name,
      Check.Setup setup,
      int states,
      int transitions,
      int kept,
      int classes,
      int size) {
    boolean hasTable() {
      return classes >= 0;
    }
  }

  private static final List<Case> CASES =
      List.of(
          new Case("new", ProtocolMachine::new, 1, 0, 0, -1, -1),
          new Case("new, compiled", () -> compiled(new ProtocolMachine()), 1, 0, 0, 1, 0),
          new Case("busy", RefusalTest::busy, 4, 5, 2, -1, -1),
          new Case("busy, compiled", () -> compiled(busy()), 4, 5, 2, 3, 8),
          new Case("full", RefusalTest::full, 12, 40, 60, -1, -1),
          new Case("full, compiled", () -> compiled(full()), 12, 40, 60, 12, 40));

  public static void main(String[] args) {
    for (Case c : CASES) {
      isAsTold(c);
      addState(c);
      addTransition(c);
      addTransitionOfAGuard(c);
      addTransitionInOrder(c);
      addAction(c);
      addActionInOrder(c);
      drop(c);
      setTimerEvent(c);
      ofATransition(c);
      happen(c);
      advance(c);
      value(c);
      left(c);
      output(c);
      classOf(c);
      ofAClass(c);
      ofTheLine(c);
    }
    Check.end();
  }

  private static ProtocolMachine compiled(ProtocolMachine m) {
    m.compile();
    return m;
  }

  /** In state 2 of 4, with two timers that run, two numbers put out, and a state left out. */
  private static ProtocolMachine busy() {
    ProtocolMachine m = new ProtocolMachine();
    Check.addStates(m, 3);
    m.addTransition(0, 4, 0, 1, 0, 2);
    m.addAction(0, 2, 3, 9);
    m.addAction(0, 0, 1, -1000);
    m.addAction(0, 4, 99, 0);
    m.addTransition(2, 5, 1, 0, -999, 2);
    m.addAction(1, 2, 0, 1000);
    m.addAction(1, 4, 0, 0);
    m.addTransition(2, 6, -1, 0, 0, 1);
    m.addTransition(2, 6, 2, 2, 1000, 1);
    m.addTransition(1, 7, -1, 0, 0, 0);
    m.setTimerEvent(3, 6);
    m.advance(3);
    m.happen(4);
    m.happen(5);
    m.advance(2);
    m.happen(0);
    return m;
  }

  /** 12 states, 40 transitions of 3 actions each, and more numbers put out than are kept. */
  private static ProtocolMachine full() {
    ProtocolMachine m = new ProtocolMachine();
    Check.addStates(m, 11);
    for (int t = 0; t < 40; t++) {
      m.addTransition(t % 12, t / 12, t % 5 == 0 ? t % 3 : -1, 2, -1000, (t + 1) % 12);
      m.addAction(t, 2, t % 4, 1 + t % 3);
      m.addAction(t, 1, t % 3, t);
      m.addAction(t, 4, t, 0);
    }
    for (int n = 0; n < 20; n++) {
      m.happen(n % 3);
      m.advance(7);
    }
    return m;
  }

  /** That the objects are as the cases tell, and not over their last of 512 calls. */
  private static void isAsTold(Case c) {
    ProtocolMachine m = c.setup.make();
    Check.due(c.name + ": stateCount()", m.stateCount(), c.states);
    Check.due(c.name + ": transitionCount()", m.transitionCount(), c.transitions);
    Check.due(c.name + ": emitted(), at most 60", Math.min(60, m.emitted()), c.kept);
    Check.due(c.name + ": isCompiled()", m.isCompiled(), c.hasTable());
    if (c.hasTable()) {
      Check.due(c.name + ": tableSize()", m.tableSize(), c.size);
      Check.due(c.name + ": compile()", m.compile(), c.classes);
    }
  }

  /** What is too small and too large for a number from first to last, which may be none. */
  private static int[] outside(int first, int last) {
    return new int[] {first - 1, last + 1, last + 2, LEAST, MOST};
  }

  private static int[] ends(int first, int last) {
    return first > last ? new int[0] : new int[] {first, last};
  }

  private static void refused(
      Case c, String call, Class<? extends RuntimeException> want, Check.CallOn doIt) {
    Check.refused(c.name + ": " + call, want, c.setup, doIt);
  }

  private static void allowed(Case c, String call, Check.CallOn doIt) {
    ProtocolMachine m = c.setup.make();
    boolean threw = Check.answer(() -> doIt.on(m)).startsWith("throws.");
    Check.due(c.name + ": " + call + " throws", threw, false);
  }

  /** Either refused or allowed. */
  private static void refusedIf(
      boolean isRefused,
      Case c,
      String call,
      Class<? extends RuntimeException> want,
      Check.CallOn doIt) {
    if (isRefused) {
      refused(c, call, want, doIt);
    } else {
      allowed(c, call, doIt);
    }
  }

  private static void addState(Case c) {
    refusedIf(c.states == 12, c, "addState()", STATE, ProtocolMachine::addState);
  }

  private static void transition(
      Case c, Class<? extends RuntimeException> want, int s, int e, int v, int r, int n, int next) {
    String call =
        "addTransition(" + s + ", " + e + ", " + v + ", " + r + ", " + n + ", " + next + ")";
    Check.CallOn doIt = m -> m.addTransition(s, e, v, r, n, next);
    if (want == null) {
      refusedIf(c.transitions == 40, c, call, STATE, doIt);
    } else {
      refused(c, call, want, doIt);
    }
  }

  private static void addTransition(Case c) {
    for (int s : outside(0, c.states - 1)) {
      transition(c, INDEX, s, 0, -1, 0, 0, 0);
      transition(c, INDEX, 0, 0, -1, 0, 0, s);
    }
    for (int s : ends(0, c.states - 1)) {
      transition(c, null, s, 0, -1, 0, 0, 0);
      transition(c, null, 0, 0, -1, 0, 0, s);
    }
    for (int e : outside(0, 7)) {
      transition(c, INDEX, 0, e, -1, 0, 0, 0);
    }
    for (int e : ends(0, 7)) {
      transition(c, null, 0, e, -1, 0, 0, 0);
    }
    for (int v : outside(-1, 2)) {
      transition(c, INDEX, 0, 0, v, 0, 0, 0);
    }
    for (int v : ends(-1, 2)) {
      transition(c, null, 0, 0, v, 0, 0, 0);
    }
  }

  private static void addTransitionOfAGuard(Case c) {
    for (int v : ends(0, 2)) {
      for (int r : outside(0, 2)) {
        transition(c, ARGUMENT, 0, 0, v, r, 0, 0);
        transition(c, null, 0, 0, -1, r, 0, 0);
      }
      for (int n : outside(-1000, 1000)) {
        transition(c, ARGUMENT, 0, 0, v, 0, n, 0);
        transition(c, null, 0, 0, -1, 0, n, 0);
      }
      for (int r : ends(0, 2)) {
        for (int n : ends(-1000, 1000)) {
          transition(c, null, 0, 0, v, r, n, 0);
        }
      }
    }
  }

  /** In the full case all three exceptions apply, in the others the first two. */
  private static void addTransitionInOrder(Case c) {
    transition(c, INDEX, c.states, 0, 0, 3, 0, 0);
    transition(c, INDEX, -1, 0, 0, 0, 1001, 0);
    transition(c, INDEX, 0, 8, 0, -1, 0, 0);
    transition(c, INDEX, 0, -1, 0, 0, -1001, 0);
    transition(c, INDEX, 0, 0, 3, 3, 1001, 0);
    transition(c, INDEX, 0, 0, -2, -1, -1001, 0);
    transition(c, INDEX, 0, 0, 0, 3, 0, c.states);
    transition(c, INDEX, 0, 0, 0, 0, 1001, -1);
    transition(c, INDEX, 12, 8, 3, 3, 1001, 12);
  }

  private static void action(
      Case c, Class<? extends RuntimeException> want, int t, int kind, int a, int b) {
    String call = "addAction(" + t + ", " + kind + ", " + a + ", " + b + ")";
    Check.CallOn doIt = m -> m.addAction(t, kind, a, b);
    if (want == null) {
      // Transition 0 of the busy case has 3 actions, as all have in the full one.
      refusedIf(c.transitions == 40 || t == 0, c, call, STATE, doIt);
    } else {
      refused(c, call, want, doIt);
    }
  }

  private static void addAction(Case c) {
    for (int t : outside(0, c.transitions - 1)) {
      action(c, INDEX, t, 4, 0, 0);
    }
    for (int t : ends(0, c.transitions - 1)) {
      action(c, null, t, 4, 0, 0);
      for (int kind : outside(0, 4)) {
        action(c, ARGUMENT, t, kind, 0, 1);
      }
      int[] greatestA = {2, 2, 3, 3, 99};
      int[] leastB = {-1000, -1000, 1, LEAST, LEAST};
      int[] greatestB = {1000, 1000, 1000, MOST, MOST};
      for (int kind = 0; kind < 5; kind++) {
        for (int a : outside(0, greatestA[kind])) {
          action(c, ARGUMENT, t, kind, a, 1);
        }
        for (int a : ends(0, greatestA[kind])) {
          action(c, null, t, kind, a, leastB[kind]);
          action(c, null, t, kind, a, greatestB[kind]);
        }
        for (int b : kind < 3 ? outside(leastB[kind], greatestB[kind]) : new int[0]) {
          action(c, ARGUMENT, t, kind, 0, b);
        }
      }
    }
  }

  /** Where no transition is, no argument matters; where none more fits, they still do. */
  private static void addActionInOrder(Case c) {
    action(c, INDEX, c.transitions, 5, 0, 0);
    action(c, INDEX, c.transitions, 4, 100, 0);
    action(c, INDEX, -1, -1, 0, 0);
    action(c, INDEX, -1, 2, 0, 0);
    if (c.transitions > 0) {
      action(c, ARGUMENT, 0, 5, 0, 0);
      action(c, ARGUMENT, 0, 4, 100, 0);
      action(c, ARGUMENT, 0, 2, 0, 1001);
      action(c, STATE, 0, 4, 99, 1001);
    }
  }

  private static void drop(Case c) {
    refusedIf(c.transitions == 0, c, "drop()", STATE, ProtocolMachine::drop);
  }

  private static void setTimerEvent(Case c) {
    for (int timer : outside(0, 3)) {
      for (int e : new int[] {0, 7, 8}) {
        refused(c, "setTimerEvent of " + timer + " to " + e, INDEX, m -> m.setTimerEvent(timer, e));
      }
    }
    for (int timer : ends(0, 3)) {
      for (int e : outside(0, 7)) {
        refused(c, "setTimerEvent of " + timer + " to " + e, INDEX, m -> m.setTimerEvent(timer, e));
      }
      for (int e : ends(0, 7)) {
        allowed(c, "setTimerEvent of " + timer + " to " + e, m -> m.setTimerEvent(timer, e));
      }
    }
  }

  private static void ofATransition(Case c) {
    for (int t : outside(0, c.transitions - 1)) {
      refused(c, "isHidden(" + t + ")", INDEX, m -> m.isHidden(t));
      refused(c, "fired(" + t + ")", INDEX, m -> m.fired(t));
    }
    for (int t : ends(0, c.transitions - 1)) {
      allowed(c, "isHidden(" + t + ")", m -> m.isHidden(t));
      allowed(c, "fired(" + t + ")", m -> m.fired(t));
    }
  }

  private static void happen(Case c) {
    for (int e : outside(0, 7)) {
      refused(c, "happen(" + e + ")", INDEX, m -> m.happen(e));
    }
    for (int e : ends(0, 7)) {
      allowed(c, "happen(" + e + ")", m -> m.happen(e));
    }
  }

  private static void advance(Case c) {
    for (int ticks : outside(0, 1000)) {
      refused(c, "advance(" + ticks + ")", ARGUMENT, m -> m.advance(ticks));
    }
    for (int ticks : ends(0, 1000)) {
      allowed(c, "advance(" + ticks + ")", m -> m.advance(ticks));
    }
  }

  private static void value(Case c) {
    for (int v : outside(0, 2)) {
      refused(c, "value(" + v + ")", INDEX, m -> m.value(v));
    }
    for (int v : ends(0, 2)) {
      allowed(c, "value(" + v + ")", m -> m.value(v));
    }
  }

  private static void left(Case c) {
    for (int timer : outside(0, 3)) {
      refused(c, "left(" + timer + ")", INDEX, m -> m.left(timer));
    }
    for (int timer : ends(0, 3)) {
      allowed(c, "left(" + timer + ")", m -> m.left(timer));
    }
  }

  private static void output(Case c) {
    for (int i : outside(0, c.kept - 1)) {
      refused(c, "output(" + i + ")", INDEX, m -> m.output(i));
    }
    for (int i : ends(0, c.kept - 1)) {
      allowed(c, "output(" + i + ")", m -> m.output(i));
    }
  }

  /** Without a table every number is refused for that, be there such a state or not. */
  private static void classOf(Case c) {
    Class<? extends RuntimeException> want = c.hasTable() ? INDEX : STATE;
    for (int s : outside(0, c.states - 1)) {
      refused(c, "classOf(" + s + ")", want, m -> m.classOf(s));
    }
    for (int s : ends(0, c.states - 1)) {
      refusedIf(!c.hasTable(), c, "classOf(" + s + ")", STATE, m -> m.classOf(s));
    }
  }

  private static void ofAClass(Case c) {
    Class<? extends RuntimeException> want = c.hasTable() ? INDEX : STATE;
    for (int n : outside(0, c.classes - 1)) {
      refused(c, "offset(" + n + ")", want, m -> m.offset(n));
      refused(c, "used(" + n + ")", want, m -> m.used(n));
    }
    for (int n : ends(0, c.hasTable() ? c.classes - 1 : 0)) {
      refusedIf(!c.hasTable(), c, "offset(" + n + ")", STATE, m -> m.offset(n));
      refusedIf(!c.hasTable(), c, "used(" + n + ")", STATE, m -> m.used(n));
    }
  }

  private static void ofTheLine(Case c) {
    Class<? extends RuntimeException> want = c.hasTable() ? INDEX : STATE;
    for (int cell : outside(0, c.size - 1)) {
      refused(c, "owner(" + cell + ")", want, m -> m.owner(cell));
    }
    for (int cell : ends(0, c.hasTable() ? c.size - 1 : 0)) {
      refusedIf(!c.hasTable(), c, "owner(" + cell + ")", STATE, m -> m.owner(cell));
    }
    refusedIf(!c.hasTable(), c, "tableSize()", STATE, ProtocolMachine::tableSize);
    refusedIf(!c.hasTable(), c, "density()", STATE, ProtocolMachine::density);
  }
}
