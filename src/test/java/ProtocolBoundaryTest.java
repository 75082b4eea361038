/**
 * The boundary cases that the paragraph "Protocol" and promises 1 to 9 name, a method for each
 * sentence. What is refused on either side of a boundary, RefusalTest looks at on many objects.
 */
public final class ProtocolBoundaryTest {
  private static final int SET = 0;
  private static final int ADD = 1;
  private static final int START = 2;
  private static final int STOP = 3;
  private static final int EMIT = 4;

  private static final int LESS = 0;
  private static final int EQUAL = 1;
  private static final int GREATER = 2;

  private static final int LEAST = Integer.MIN_VALUE;
  private static final int MOST = Integer.MAX_VALUE;

  public static void main(String[] args) {
    stateZeroIsThere();
    atMostTwelveStates();
    eightEvents();
    fourTimers();
    threeVariables();
    variablesFromLeastToMost();
    timersHaveTheirOwnEvents();
    atMostFortyTransitions();
    transitionsAreNumberedAnew();
    atMostThreeActions();
    threeActionsOfEachTransition();
    guardsOfTheLeastAndMostNumbers();
    noGuardHasNoRelationAndNumber();
    setOfTheLeastAndMost();
    addOfTheLeastAndMost();
    addBeyondBecomesTheBound();
    shortestAndLongestStart();
    stopOfEachTimer();
    emitOfTheLeastAndMost();
    dropDownToNone();
    dropOfTheLastAlone();
    setTimerEventToTheSame();
    countsFromLeastToMost();
    theFirstIsNotHidden();
    theLastOfFortyIsHidden();
    hiddenByOneAlone();
    hiddenForEachValueAtTheEnds();
    noGuardIsNotHiddenByGuards();
    guardsThatAreNeverTrue();
    Check.end();
  }

  /** "state 0 is there from the beginning on"; "Creates a protocol with state 0 alone". */
  private static void stateZeroIsThere() {
    ProtocolMachine m = new ProtocolMachine();
    Check.due("stateCount()", m.stateCount(), 1);
    Check.due("state()", m.state(), 0);
    Check.noIndex("a transition to state 1 of one", m, () -> Check.link(m, 0, 0, 1));
    Check.noIndex("a transition of state 1 of one", m, () -> Check.link(m, 1, 0, 0));
    Check.due("a transition of state 0", Check.link(m, 0, 0, 0), 0);
    Check.due("happen(0)", m.happen(0), 0);
  }

  /** "There are at most 12 states, numbered from 0"; "if there are 12 states". */
  private static void atMostTwelveStates() {
    ProtocolMachine m = new ProtocolMachine();
    for (int s = 1; s <= 11; s++) {
      Check.due("addState()", m.addState(), s);
      Check.due("stateCount()", m.stateCount(), s + 1);
      Check.due("a transition to the newest state", Check.link(m, s - 1, 0, s), s - 1);
    }
    Check.noState("addState() of 12", m, m::addState);
    Check.noState("addState() of 12 again", m, m::addState);
    Check.noIndex("state 12", m, () -> Check.link(m, 12, 0, 0));
    Check.noIndex("next state 12", m, () -> Check.link(m, 0, 0, 12));
    for (int s = 1; s <= 11; s++) {
      m.happen(0);
      Check.due("state()", m.state(), s);
    }
  }

  /** "There are 8 events, 0 to 7". */
  private static void eightEvents() {
    ProtocolMachine m = new ProtocolMachine();
    for (int e = 0; e < 8; e++) {
      Check.due("happen(" + e + ") before", m.happen(e), -1);
      Check.due("a transition of event " + e, Check.link(m, 0, e, 0), e);
      Check.due("happen(" + e + ")", m.happen(e), e);
    }
    Check.noIndex("a transition of event 8", m, () -> Check.link(m, 0, 8, 0));
    Check.noIndex("a transition of event -1", m, () -> Check.link(m, 0, -1, 0));
  }

  /** "4 timers, 0 to 3". */
  private static void fourTimers() {
    ProtocolMachine m = new ProtocolMachine();
    for (int timer = 0; timer < 4; timer++) {
      Check.link(m, 0, 4 + timer, 0);
      Check.due("START", m.addAction(timer, START, timer, 10 + timer), 1);
      Check.due("left(" + timer + ") before", m.left(timer), -1);
      m.happen(4 + timer);
      Check.due("left(" + timer + ")", m.left(timer), 10 + timer);
    }
    for (int timer : new int[] {-1, 4}) {
      Check.noArgument("START of " + timer, m, () -> m.addAction(0, START, timer, 1));
      Check.noArgument("STOP of " + timer, m, () -> m.addAction(0, STOP, timer, 1));
      Check.noIndex("left(" + timer + ")", m, () -> m.left(timer));
    }
  }

  /** "and 3 variables, 0 to 2". */
  private static void threeVariables() {
    ProtocolMachine m = new ProtocolMachine();
    for (int v = 0; v < 3; v++) {
      Check.due("a guard of " + v, m.addTransition(0, 0, v, EQUAL, 1 + v, 0), v);
      Check.due("SET", m.addAction(v, SET, v, 0), 1);
      Check.due("ADD", m.addAction(v, ADD, v, 50 + v), 2);
    }
    for (int v = 0; v < 3; v++) {
      Check.link(m, 0, 1 + v, 0);
      m.addAction(3 + v, SET, v, 1 + v);
      Check.due("happen(0) before", m.happen(0), -1);
      m.happen(1 + v);
      Check.due("the guard of " + v, m.happen(0), v);
      Check.due("value(" + v + ")", m.value(v), 50 + v);
    }
    for (int v : new int[] {-1, 3}) {
      Check.noArgument("SET of " + v, m, () -> m.addAction(3, SET, v, 1));
      Check.noArgument("ADD of " + v, m, () -> m.addAction(3, ADD, v, 1));
      Check.noIndex("value(" + v + ")", m, () -> m.value(v));
    }
    Check.noIndex("a guard of 3", m, () -> m.addTransition(0, 0, 3, EQUAL, 0, 0));
    Check.noIndex("a guard of -2", m, () -> m.addTransition(0, 0, -2, EQUAL, 0, 0));
  }

  /** "variables, 0 to 2, which are integers from -1000 to 1000". */
  private static void variablesFromLeastToMost() {
    for (int v = 0; v < 3; v++) {
      ProtocolMachine m = new ProtocolMachine();
      Check.link(m, 0, 0, 0);
      m.addAction(0, SET, v, 1000);
      Check.link(m, 0, 1, 0);
      m.addAction(1, SET, v, -1000);
      m.happen(0);
      Check.due("the most of " + v, m.value(v), 1000);
      m.happen(1);
      Check.due("the least of " + v, m.value(v), -1000);
    }
  }

  /** "Each timer has an event (at first, the event with its own number)." */
  private static void timersHaveTheirOwnEvents() {
    for (int timer = 0; timer < 4; timer++) {
      ProtocolMachine m = new ProtocolMachine();
      Check.link(m, 0, 7, 0);
      m.addAction(0, START, timer, 1);
      for (int e = 0; e < 4; e++) {
        Check.link(m, 0, e, 0);
      }
      m.happen(7);
      m.advance(1);
      for (int e = 0; e < 4; e++) {
        String what = "timer " + timer + ": fired(" + (1 + e) + ")";
        Check.due(what, m.fired(1 + e), e == timer ? 1 : 0);
      }
      Check.due("the event before", m.setTimerEvent(timer, 7), timer);
    }
  }

  /** "There are at most 40 transitions"; "if there are 40 transitions". */
  private static void atMostFortyTransitions() {
    ProtocolMachine m = new ProtocolMachine();
    for (int t = 0; t < 40; t++) {
      Check.due("addTransition", m.addTransition(0, 0, 0, EQUAL, t, 0), t);
      Check.due("transitionCount()", m.transitionCount(), t + 1);
    }
    Check.noState("a 41st", m, () -> m.addTransition(0, 0, 0, EQUAL, 40, 0));
    Check.noState("a 41st without a guard", m, () -> Check.link(m, 0, 0, 0));
    Check.due("transitionCount() then", m.transitionCount(), 40);
  }

  /** "numbered from 0 in the order of their creation". */
  private static void transitionsAreNumberedAnew() {
    ProtocolMachine m = new ProtocolMachine();
    for (int t = 0; t < 40; t++) {
      Check.link(m, 0, 7, 0);
    }
    Check.due("drop() of 40", m.drop(), 39);
    Check.due("the 40th once more", Check.link(m, 0, 6, 0), 39);
    Check.noState("a 41st then", m, () -> Check.link(m, 0, 0, 0));
    Check.due("happen(6)", m.happen(6), 39);
    for (int left = 39; left >= 0; left--) {
      Check.due("drop()", m.drop(), left);
    }
    Check.due("the first once more", Check.link(m, 0, 5, 0), 0);
    Check.due("happen(5)", m.happen(5), 0);
  }

  /** "at most 3 actions in an order"; "if the transition has 3 actions". */
  private static void atMostThreeActions() {
    ProtocolMachine m = new ProtocolMachine();
    Check.link(m, 0, 0, 0);
    for (int n = 1; n <= 3; n++) {
      m.happen(0);
      Check.due("emitted() with one action fewer", m.emitted(), n * (n - 1) / 2);
      Check.due("addAction", m.addAction(0, EMIT, n, 0), n);
    }
    for (int kind = SET; kind <= EMIT; kind++) {
      int k = kind;
      Check.noState("a 4th of kind " + k, m, () -> m.addAction(0, k, 0, 1));
    }
    m.happen(0);
    Check.due("emitted() then", m.emitted(), 6);
  }

  /** "Returns the number of actions of the transition.": of this one, not of its neighbours. */
  private static void threeActionsOfEachTransition() {
    ProtocolMachine m = new ProtocolMachine();
    for (int t = 0; t < 40; t++) {
      m.addTransition(0, t % 8, 0, EQUAL, t / 8, 0);
    }
    for (int n = 1; n <= 3; n++) {
      for (int t = 39; t >= 0; t--) {
        Check.due("addAction to " + t, m.addAction(t, EMIT, t * 2 + n, 0), n);
      }
    }
    Check.noState("a 4th of the last", m, () -> m.addAction(39, EMIT, 0, 0));
    for (int e = 0; e < 8; e++) {
      Check.due("happen(" + e + ")", m.happen(e), e);
      for (int n = 1; n <= 3; n++) {
        Check.due("output", m.output(e * 3 + n - 1), e * 2 + n);
      }
    }
  }

  /** Whether a guard is true for a value. */
  private static boolean isTrue(int value, int relation, int number) {
    ProtocolMachine m = new ProtocolMachine();
    m.addTransition(0, 0, 1, relation, number, 0);
    Check.link(m, 0, 1, 0);
    m.addAction(1, SET, 1, value);
    m.happen(1);
    return m.happen(0) == 0;
  }

  /** "less than (0), equal to (1) or greater than (2) a number from -1000 to 1000". */
  private static void guardsOfTheLeastAndMostNumbers() {
    Check.due("-1000 < -1000", isTrue(-1000, LESS, -1000), false);
    Check.due("-1000 < -999", isTrue(-1000, LESS, -999), true);
    Check.due("-999 < -999", isTrue(-999, LESS, -999), false);
    Check.due("999 < 1000", isTrue(999, LESS, 1000), true);
    Check.due("1000 < 1000", isTrue(1000, LESS, 1000), false);
    Check.due("-1000 = -1000", isTrue(-1000, EQUAL, -1000), true);
    Check.due("-999 = -1000", isTrue(-999, EQUAL, -1000), false);
    Check.due("1000 = -1000", isTrue(1000, EQUAL, -1000), false);
    Check.due("999 = 1000", isTrue(999, EQUAL, 1000), false);
    Check.due("1000 = 1000", isTrue(1000, EQUAL, 1000), true);
    Check.due("-1000 > -1000", isTrue(-1000, GREATER, -1000), false);
    Check.due("-999 > -1000", isTrue(-999, GREATER, -1000), true);
    Check.due("999 > 999", isTrue(999, GREATER, 999), false);
    Check.due("1000 > 999", isTrue(1000, GREATER, 999), true);
    Check.due("1000 > 1000", isTrue(1000, GREATER, 1000), false);
  }

  /** "-1 for no guard"; "(no meaning without a guard)". */
  private static void noGuardHasNoRelationAndNumber() {
    int[] any = {LEAST, -1001, -1, 0, 3, 1001, MOST};
    for (int relation : any) {
      for (int number : any) {
        ProtocolMachine m = new ProtocolMachine();
        Check.due("no guard", m.addTransition(0, 0, -1, relation, number, 0), 0);
        Check.due("happen(0) without a guard", m.happen(0), 0);
      }
    }
  }

  /** The value of a variable after a SET and an ADD. */
  private static int sum(int set, int add) {
    ProtocolMachine m = new ProtocolMachine();
    Check.link(m, 0, 0, 0);
    m.addAction(0, SET, 0, set);
    m.addAction(0, ADD, 0, add);
    m.happen(0);
    return m.value(0);
  }

  /** "SET (0) of a variable to a number from -1000 to 1000". */
  private static void setOfTheLeastAndMost() {
    ProtocolMachine m = new ProtocolMachine();
    Check.link(m, 0, 0, 0);
    Check.noArgument("SET to -1001", m, () -> m.addAction(0, SET, 0, -1001));
    Check.noArgument("SET to 1001", m, () -> m.addAction(0, SET, 0, 1001));
    Check.due("SET to -1000", sum(-1000, 0), -1000);
    Check.due("SET to 1000", sum(1000, 0), 1000);
  }

  /** "ADD (1) of a number from -1000 to 1000 to a variable". */
  private static void addOfTheLeastAndMost() {
    ProtocolMachine m = new ProtocolMachine();
    Check.link(m, 0, 0, 0);
    Check.noArgument("ADD of -1001", m, () -> m.addAction(0, ADD, 0, -1001));
    Check.noArgument("ADD of 1001", m, () -> m.addAction(0, ADD, 0, 1001));
    Check.due("1000 - 1000", sum(1000, -1000), 0);
    Check.due("-1000 + 1000", sum(-1000, 1000), 0);
    Check.due("0 + 1000", sum(0, 1000), 1000);
    Check.due("0 - 1000", sum(0, -1000), -1000);
  }

  /** "(a result beyond -1000 or 1000 becomes this)". */
  private static void addBeyondBecomesTheBound() {
    Check.due("999 + 1", sum(999, 1), 1000);
    Check.due("999 + 2", sum(999, 2), 1000);
    Check.due("1000 + 1", sum(1000, 1), 1000);
    Check.due("1000 + 1000", sum(1000, 1000), 1000);
    Check.due("-999 - 1", sum(-999, -1), -1000);
    Check.due("-999 - 2", sum(-999, -2), -1000);
    Check.due("-1000 - 1", sum(-1000, -1), -1000);
    Check.due("-1000 - 1000", sum(-1000, -1000), -1000);
    ProtocolMachine m = new ProtocolMachine();
    Check.link(m, 0, 0, 0);
    m.addAction(0, ADD, 2, 700);
    m.addAction(0, ADD, 2, 700);
    m.addAction(0, ADD, 2, -1);
    m.happen(0);
    Check.due("what is beyond is forgotten", m.value(2), 999);
  }

  /** "START (2) of a timer with a duration from 1 to 1000". */
  private static void shortestAndLongestStart() {
    ProtocolMachine m = new ProtocolMachine();
    Check.link(m, 0, 7, 0);
    Check.noArgument("START with 0", m, () -> m.addAction(0, START, 0, 0));
    Check.noArgument("START with -1", m, () -> m.addAction(0, START, 0, -1));
    Check.noArgument("START with 1001", m, () -> m.addAction(0, START, 0, 1001));
    m.addAction(0, START, 0, 1);
    m.addAction(0, START, 3, 1000);
    m.happen(7);
    Check.due("left(0)", m.left(0), 1);
    Check.due("left(3)", m.left(3), 1000);
    Check.due("advance(1)", m.advance(1), 1);
    Check.due("advance(998)", m.advance(998), 0);
    Check.due("advance(1) then", m.advance(1), 1);
  }

  /** "STOP (3) of a timer"; "(no meaning for the others)". */
  private static void stopOfEachTimer() {
    int[] any = {LEAST, -1, 1001, MOST};
    for (int timer = 0; timer < 4; timer++) {
      ProtocolMachine m = new ProtocolMachine();
      Check.link(m, 0, 6, 0);
      for (int other = 0; other < 3; other++) {
        m.addAction(0, START, (timer + other) % 4, 5);
      }
      Check.link(m, 0, 7, 0);
      Check.due("STOP", m.addAction(1, STOP, timer, any[timer]), 1);
      m.happen(6);
      m.happen(7);
      Check.due("stopped", m.left(timer), -1);
      Check.due("not stopped", m.left((timer + 1) % 4), 5);
      Check.due("never started", m.left((timer + 3) % 4), -1);
    }
  }

  /** "EMIT (4) of a number from 0 to 99". */
  private static void emitOfTheLeastAndMost() {
    ProtocolMachine m = new ProtocolMachine();
    Check.link(m, 0, 0, 0);
    Check.noArgument("EMIT of -1", m, () -> m.addAction(0, EMIT, -1, 0));
    Check.noArgument("EMIT of 100", m, () -> m.addAction(0, EMIT, 100, 0));
    Check.due("EMIT of 0", m.addAction(0, EMIT, 0, LEAST), 1);
    Check.due("EMIT of 99", m.addAction(0, EMIT, 99, MOST), 2);
    Check.noArgument("kind 5", m, () -> m.addAction(0, 5, 0, 1));
    Check.noArgument("kind -1", m, () -> m.addAction(0, -1, 0, 1));
    m.happen(0);
    Check.due("output(0)", m.output(0), 0);
    Check.due("output(1)", m.output(1), 99);
  }

  /** "Returns how many are left."; "if there is none". */
  private static void dropDownToNone() {
    ProtocolMachine m = new ProtocolMachine();
    Check.noState("drop() of a new one", m, m::drop);
    Check.link(m, 0, 0, 0);
    Check.link(m, 0, 1, 0);
    Check.due("drop() of 2", m.drop(), 1);
    Check.due("drop() of 1", m.drop(), 0);
    Check.noState("drop() of none", m, m::drop);
    Check.due("transitionCount()", m.transitionCount(), 0);
  }

  /** "Removes the transition that was added last.": with what it had, and no other. */
  private static void dropOfTheLastAlone() {
    ProtocolMachine m = new ProtocolMachine();
    Check.link(m, 0, 0, 0);
    m.addTransition(0, 0, 0, EQUAL, 1000, 0);
    m.addAction(1, EMIT, 1, 0);
    m.addAction(0, EMIT, 2, 0);
    m.drop();
    Check.noIndex("addAction to the dropped one", m, () -> m.addAction(1, EMIT, 1, 0));
    Check.noIndex("isHidden of the dropped one", m, () -> m.isHidden(1));
    Check.noIndex("fired of the dropped one", m, () -> m.fired(1));
    m.happen(0);
    Check.due("the first one stays", m.output(0), 2);
    Check.due("one that takes its number", Check.link(m, 0, 1, 0), 1);
    Check.due("it has no guard", m.happen(1), 1);
    Check.due("it has no actions", m.addAction(1, EMIT, 3, 0), 1);
  }

  /** "Returns the event before.": the first one, another one, and the same. */
  private static void setTimerEventToTheSame() {
    for (int timer = 0; timer < 4; timer++) {
      ProtocolMachine m = new ProtocolMachine();
      Check.due("at first", m.setTimerEvent(timer, 7), timer);
      Check.due("to the same", m.setTimerEvent(timer, 7), 7);
      Check.due("to the least", m.setTimerEvent(timer, 0), 7);
      Check.due("the least before", m.setTimerEvent(timer, 6), 0);
      for (int other = 0; other < 4; other++) {
        Check.due("of another timer", m.setTimerEvent(other, 0), other == timer ? 6 : other);
      }
    }
  }

  /** "Returns the number of states.", "of transitions.": a refused call is not counted. */
  private static void countsFromLeastToMost() {
    ProtocolMachine m = new ProtocolMachine();
    Check.due("stateCount() of a new one", m.stateCount(), 1);
    Check.due("transitionCount() of a new one", m.transitionCount(), 0);
    for (int n = 0; n < 45; n++) {
      Check.answer(m::addState);
      Check.answer(() -> Check.link(m, 0, 0, 0));
      Check.answer(() -> Check.link(m, 0, 8, 0));
      Check.due("stateCount()", m.stateCount(), Math.min(12, 2 + n));
      Check.due("transitionCount()", m.transitionCount(), Math.min(40, 1 + n));
    }
  }

  /** "because of one transition with a smaller number": the first one has none. */
  private static void theFirstIsNotHidden() {
    int[][] guards = {{-1, 0, 0}, {0, LESS, -1000}, {0, GREATER, 1000}, {2, EQUAL, 0}};
    for (int[] g : guards) {
      ProtocolMachine m = new ProtocolMachine();
      m.addTransition(0, 0, g[0], g[1], g[2], 0);
      Check.due("alone", m.isHidden(0), false);
      Check.link(m, 0, 0, 0);
      m.addTransition(0, 0, g[0], g[1], g[2], 0);
      Check.due("with later ones", m.isHidden(0), false);
      Check.due("a later one", m.isHidden(2), true);
    }
  }

  /** "for the same state and event": the greatest ones, and the greatest number of transitions. */
  private static void theLastOfFortyIsHidden() {
    ProtocolMachine m = new ProtocolMachine();
    Check.addStates(m, 11);
    m.addTransition(11, 7, 2, LESS, 1000, 0);
    for (int t = 1; t < 39; t++) {
      Check.link(m, t % 11, 7, 0);
    }
    m.addTransition(11, 7, 2, LESS, 1000, 11);
    Check.due("isHidden(0)", m.isHidden(0), false);
    Check.due("isHidden(39)", m.isHidden(39), true);
    Check.noIndex("isHidden(40)", m, () -> m.isHidden(40));
    m.drop();
    m.addTransition(11, 6, 2, LESS, 1000, 11);
    Check.due("another event", m.isHidden(39), false);
    m.drop();
    m.addTransition(11, 7, 1, LESS, 1000, 11);
    Check.due("another variable", m.isHidden(39), false);
  }

  /** "because of one transition": two that make each value true hide nothing together. */
  private static void hiddenByOneAlone() {
    ProtocolMachine m = new ProtocolMachine();
    m.addTransition(0, 0, 0, LESS, 0, 0);
    m.addTransition(0, 0, 0, GREATER, -1, 0);
    m.addTransition(0, 0, 0, LESS, 1, 0);
    m.addTransition(0, 0, 0, GREATER, -2, 0);
    m.addTransition(0, 0, 0, EQUAL, -1, 0);
    m.addTransition(0, 0, 0, EQUAL, 0, 0);
    Check.due("greater than -1 behind less than 0", m.isHidden(1), false);
    Check.due("less than 1", m.isHidden(2), false);
    Check.due("greater than -2", m.isHidden(3), false);
    Check.due("equal to -1", m.isHidden(4), true);
    Check.due("equal to 0", m.isHidden(5), true);
  }

  private static void hides(int relation, int number, int later, int laterNumber, boolean want) {
    ProtocolMachine m = new ProtocolMachine();
    m.addTransition(0, 0, 0, relation, number, 0);
    m.addTransition(0, 0, 0, later, laterNumber, 0);
    String what = relation + " " + number + " before " + later + " " + laterNumber;
    Check.due(what + ": isHidden(1)", m.isHidden(1), want);
  }

  /** "each value from -1000 to 1000 for which the later guard is true". */
  private static void hiddenForEachValueAtTheEnds() {
    hides(LESS, 1000, LESS, 1000, true);
    hides(LESS, 999, LESS, 1000, false);
    hides(LESS, 1000, LESS, 999, true);
    hides(LESS, 1000, EQUAL, 999, true);
    hides(LESS, 1000, EQUAL, 1000, false);
    hides(LESS, 1000, GREATER, 999, false);
    hides(LESS, 1000, GREATER, -1000, false);
    hides(GREATER, -1000, GREATER, -1000, true);
    hides(GREATER, -999, GREATER, -1000, false);
    hides(GREATER, -1000, EQUAL, -999, true);
    hides(GREATER, -1000, EQUAL, -1000, false);
    hides(GREATER, -1000, LESS, -999, false);
    hides(GREATER, -1000, LESS, 1000, false);
    // Of the values from -1000 to 1000, these guards are true for one alone.
    hides(EQUAL, 1000, GREATER, 999, true);
    hides(EQUAL, 1000, GREATER, 998, false);
    hides(EQUAL, -1000, LESS, -999, true);
    hides(EQUAL, -1000, LESS, -998, false);
    hides(GREATER, 999, EQUAL, 1000, true);
    hides(LESS, -999, EQUAL, -1000, true);
  }

  /** "this one has no guard, or both have guards with the same variable". */
  private static void noGuardIsNotHiddenByGuards() {
    ProtocolMachine m = new ProtocolMachine();
    for (int v = 0; v < 3; v++) {
      m.addTransition(0, 0, v, LESS, 1000, 0);
      m.addTransition(0, 0, v, GREATER, -1000, 0);
      m.addTransition(0, 0, v, EQUAL, 1000, 0);
    }
    Check.link(m, 0, 0, 0);
    Check.due("no guard behind guards", m.isHidden(9), false);
    Check.link(m, 0, 0, 0);
    Check.due("no guard behind no guard", m.isHidden(10), true);
    m.addTransition(0, 0, 2, EQUAL, 5, 0);
    Check.due("a guard behind no guard", m.isHidden(11), true);
  }

  /** "(A transition whose own guard is true for no value is hidden if there is any such ..)". */
  private static void guardsThatAreNeverTrue() {
    int[][] never = {{LESS, -1000}, {GREATER, 1000}};
    for (int[] n : never) {
      hides(LESS, -1000, n[0], n[1], true);
      hides(GREATER, 1000, n[0], n[1], true);
      hides(EQUAL, 0, n[0], n[1], true);
      hides(LESS, 5, n[0], n[1], true);
      hides(GREATER, 5, n[0], n[1], true);
      hides(n[0], n[1], EQUAL, 1000, false);
      hides(n[0], n[1], EQUAL, -1000, false);
      hides(n[0], n[1], LESS, -999, false);
      hides(n[0], n[1], GREATER, 999, false);
      ProtocolMachine m = new ProtocolMachine();
      m.addTransition(0, 0, 1, n[0], n[1], 0);
      m.addTransition(0, 0, 0, n[0], n[1], 0);
      Check.due("behind a guard for another variable", m.isHidden(1), false);
      m.addTransition(0, 1, 0, n[0], n[1], 0);
      Check.due("behind none of its event", m.isHidden(2), false);
      Check.link(m, 0, 2, 0);
      m.addTransition(0, 2, 0, n[0], n[1], 0);
      Check.due("behind one without a guard", m.isHidden(4), true);
    }
  }
}
