import java.math.BigInteger;

/**
 * The boundary cases that the paragraph "Tables" and promises 21 to 29 name, a method for each
 * sentence. What is refused on either side of a boundary, RefusalTest looks at on many objects.
 */
public final class TableBoundaryTest {
  private static final int SET = 0;
  private static final int ADD = 1;
  private static final int START = 2;
  private static final int STOP = 3;
  private static final int EMIT = 4;

  private static final int LESS = 0;
  private static final int EQUAL = 1;
  private static final int GREATER = 2;

  public static void main(String[] args) {
    stateZeroAlone();
    whateverTheirGuards();
    notByTransitionsOfTheirOwn();
    thePresentStateMayBeLeftOut();
    theSameNumberOfTransitions();
    theTransitionWithNumberZero();
    guardsAtTheirBounds();
    noGuardIsNoOtherGuard();
    actionsAtTheirBounds();
    whatHasAMeaning();
    theLastOfManyTellsApart();
    theGreatestClasses();
    asManyClassesAsStates();
    numberedBySmallestStates();
    usedOnceHoweverOften();
    noCellsAndEightCells();
    moreUsedCellsFirst();
    ofSeveralTheSmallerNumbers();
    rowsWithoutUsedCells();
    theSmallestOffset();
    aRowMayHangOverTheEnd();
    aLongLine();
    sizeByTheGreatestCell();
    keptUntilTheNextChange();
    droppedIfNothingChanges();
    keptByRefusedCalls();
    keptByAllOthers();
    compileIfThereIsNone();
    classesFromOneToTwelve();
    classOfTheLastState();
    ownerOfTheLastCell();
    densityFromLeastToMost();
    digestWrapsAround();
    digestOfEachNumber();
    digestWithAndWithoutATable();
    Check.end();
  }

  private static void classes(String what, ProtocolMachine m, int... want) {
    int most = -1;
    for (int c : want) {
      most = Math.max(most, c);
    }
    Check.due(what + ": compile()", m.compile(), most + 1);
    for (int s = 0; s < want.length; s++) {
      Check.due(what + ": classOf(" + s + ")", m.classOf(s), want[s]);
    }
  }

  private static void offsets(String what, ProtocolMachine m, int... want) {
    Check.due(what + ": compile()", m.compile(), want.length);
    for (int c = 0; c < want.length; c++) {
      Check.due(what + ": offset(" + c + ")", m.offset(c), want[c]);
    }
  }

  private static void owners(String what, ProtocolMachine m, int... want) {
    Check.due(what + ": tableSize()", m.tableSize(), want.length);
    for (int cell = 0; cell < want.length; cell++) {
      Check.due(what + ": owner(" + cell + ")", m.owner(cell), want[cell]);
    }
    Check.noIndex(what + ": owner of the size", m, () -> m.owner(want.length));
    Check.noIndex(what + ": owner(-1)", m, () -> m.owner(-1));
  }

  /** A ring of states, each with these events and a number of its own: no two are joined. */
  private static ProtocolMachine ring(int states, int... events) {
    ProtocolMachine m = new ProtocolMachine();
    Check.addStates(m, states - 1);
    for (int s = 0; s < states; s++) {
      for (int e : events) {
        m.addAction(Check.link(m, s, e, (s + 1) % states), EMIT, s, 0);
      }
    }
    return m;
  }

  /** States 1 and 2, both reached from state 0, with no transitions yet. */
  private static ProtocolMachine twins() {
    ProtocolMachine m = new ProtocolMachine();
    Check.addStates(m, 2);
    Check.link(m, 0, 0, 1);
    Check.link(m, 0, 1, 2);
    return m;
  }

  private static void joined(String what, ProtocolMachine m) {
    classes(what, m, 0, 1, 1);
  }

  private static void apart(String what, ProtocolMachine m) {
    classes(what, m, 0, 1, 2);
  }

  /** "leaves out the states that cannot be reached from state 0": never state 0 itself. */
  private static void stateZeroAlone() {
    classes("a new one", new ProtocolMachine(), 0);
    ProtocolMachine m = new ProtocolMachine();
    Check.addStates(m, 11);
    classes("12 states", m, 0, -1, -1, -1, -1, -1, -1, -1, -1, -1, -1, -1);
    Check.link(m, 0, 7, 11);
    classes("the last one is reached", m, 0, -1, -1, -1, -1, -1, -1, -1, -1, -1, -1, 1);
  }

  /** "by transitions, whatever their guards": also by those that never fire. */
  private static void whateverTheirGuards() {
    ProtocolMachine m = new ProtocolMachine();
    Check.addStates(m, 3);
    m.addTransition(0, 0, 0, LESS, -1000, 1);
    m.addTransition(1, 1, 2, GREATER, 1000, 2);
    Check.link(m, 2, 2, 2);
    Check.link(m, 2, 2, 3);
    Check.due("isHidden(3)", m.isHidden(3), true);
    classes("never true, never true, hidden", m, 0, 1, 2, 3);
  }

  /** The same: a state that goes to state 0, or to itself, is not reached by that. */
  private static void notByTransitionsOfTheirOwn() {
    ProtocolMachine m = new ProtocolMachine();
    Check.addStates(m, 3);
    Check.link(m, 1, 0, 0);
    Check.link(m, 2, 0, 2);
    Check.link(m, 2, 1, 3);
    Check.link(m, 3, 1, 2);
    classes("none is reached", m, 0, -1, -1, -1);
    Check.due("tableSize()", m.tableSize(), 0);
    Check.link(m, 0, 0, 3);
    classes("two are reached", m, 0, -1, 1, 2);
  }

  /** The same: it is not asked which state is the present one. */
  private static void thePresentStateMayBeLeftOut() {
    ProtocolMachine m = new ProtocolMachine();
    m.addState();
    Check.link(m, 0, 0, 1);
    m.happen(0);
    classes("reached", m, 0, 1);
    m.drop();
    classes("not reached any more", m, 0, -1);
    Check.due("state()", m.state(), 1);
  }

  /** "for each event, they have the same number of transitions". */
  private static void theSameNumberOfTransitions() {
    for (int e : new int[] {0, 7}) {
      ProtocolMachine m = twins();
      joined("none and none", m);
      for (int n = 0; n < 19; n++) {
        Check.link(m, 1, e, 0);
        apart((n + 1) + " and " + n, m);
        Check.link(m, 2, e, 0);
        joined((n + 1) + " and as many", m);
      }
    }
  }

  /** The same: the transition with the number 0 is one, too, be it of the smaller state or not. */
  private static void theTransitionWithNumberZero() {
    for (int s = 1; s <= 2; s++) {
      ProtocolMachine m = new ProtocolMachine();
      Check.addStates(m, 2);
      Check.link(m, s, 7, 0);
      Check.link(m, 0, 0, 1);
      Check.link(m, 0, 1, 2);
      apart("one of state " + s, m);
      Check.link(m, 3 - s, 7, 0);
      joined("one of each state", m);
    }
  }

  /** States 1 and 2 with these guards. */
  private static ProtocolMachine guards(int[] one, int[] other) {
    ProtocolMachine m = twins();
    m.addTransition(1, 7, one[0], one[1], one[2], 0);
    m.addTransition(2, 7, other[0], other[1], other[2], 0);
    return m;
  }

  /** "Two guards are the same if their variables, relations and numbers are": not their truth. */
  private static void guardsAtTheirBounds() {
    int[][] all = {
      {0, LESS, -1000}, {0, LESS, -999}, {0, EQUAL, -1000}, {0, GREATER, 1000}, {0, GREATER, 999},
      {0, EQUAL, 1000}, {1, LESS, -1000}, {2, LESS, -1000}, {2, GREATER, 1000}, {0, LESS, 0}
    };
    for (int i = 0; i < all.length; i++) {
      for (int j = 0; j < all.length; j++) {
        ProtocolMachine m = guards(all[i], all[j]);
        Check.due("guards " + i + " and " + j, m.compile(), i == j ? 2 : 3);
      }
    }
  }

  /** "(or both are none)": then relation and number have no meaning. */
  private static void noGuardIsNoOtherGuard() {
    int most = Integer.MAX_VALUE;
    joined("none and none", guards(new int[] {-1, LESS, 0}, new int[] {-1, most, -most}));
    apart("none and one", guards(new int[] {-1, LESS, 0}, new int[] {0, LESS, 0}));
    apart("one and none", guards(new int[] {2, GREATER, 1000}, new int[] {-1, GREATER, 1000}));
    ProtocolMachine m = guards(new int[] {-1, LESS, 0}, new int[] {2, GREATER, 1000});
    m.drop();
    Check.link(m, 2, 7, 0);
    joined("none in place of one that was dropped", m);
  }

  /** States 1 and 2 with an action each. */
  private static ProtocolMachine actions(int[] one, int[] other) {
    ProtocolMachine m = twins();
    m.addAction(Check.link(m, 1, 7, 0), one[0], one[1], one[2]);
    m.addAction(Check.link(m, 2, 7, 0), other[0], other[1], other[2]);
    return m;
  }

  /** "two actions, if their kinds are, and those of a and b that have a meaning". */
  private static void actionsAtTheirBounds() {
    int[][] all = {
      {SET, 0, -1000}, {SET, 0, 1000}, {SET, 2, 1000}, {ADD, 0, -1000}, {ADD, 0, 1000},
      {ADD, 2, 1000}, {START, 0, 1}, {START, 0, 1000}, {START, 2, 1000}, {START, 3, 1000},
      {STOP, 0, 1}, {STOP, 3, 1}, {EMIT, 0, 1}, {EMIT, 3, 1}, {EMIT, 99, 1}
    };
    for (int i = 0; i < all.length; i++) {
      for (int j = 0; j < all.length; j++) {
        ProtocolMachine m = actions(all[i], all[j]);
        Check.due("actions " + i + " and " + j, m.compile(), i == j ? 2 : 3);
      }
    }
  }

  /** The same: b of a STOP and of an EMIT has none. */
  private static void whatHasAMeaning() {
    int least = Integer.MIN_VALUE;
    int most = Integer.MAX_VALUE;
    joined("b of STOP", actions(new int[] {STOP, 3, least}, new int[] {STOP, 3, most}));
    joined("b of EMIT", actions(new int[] {EMIT, 99, least}, new int[] {EMIT, 99, most}));
    apart("b of START", actions(new int[] {START, 3, 999}, new int[] {START, 3, 1000}));
    apart("b of SET", actions(new int[] {SET, 2, 999}, new int[] {SET, 2, 1000}));
    apart("b of ADD", actions(new int[] {ADD, 2, -999}, new int[] {ADD, 2, -1000}));
  }

  /** "and these, in order, have the same ..": the last action of the last transition, too. */
  private static void theLastOfManyTellsApart() {
    ProtocolMachine m = twins();
    for (int n = 0; n < 19; n++) {
      for (int s = 1; s <= 2; s++) {
        int t = m.addTransition(s, 7, 0, EQUAL, n, s);
        m.addAction(t, EMIT, 1, 0);
        m.addAction(t, EMIT, 2, 0);
      }
    }
    joined("19 of 2 actions", m);
    m.addAction(38, EMIT, 3, 0);
    apart("3 actions and 2", m);
    m.addAction(39, EMIT, 4, 0);
    apart("another third one", m);
    m.drop();
    m.addTransition(2, 7, 0, EQUAL, 18, 2);
    m.addAction(39, EMIT, 2, 0);
    m.addAction(39, EMIT, 1, 0);
    m.addAction(39, EMIT, 3, 0);
    apart("another order", m);
    m.drop();
    m.addTransition(2, 7, 0, EQUAL, 18, 0);
    m.addAction(39, EMIT, 1, 0);
    m.addAction(39, EMIT, 2, 0);
    m.addAction(39, EMIT, 3, 0);
    apart("another next state", m);
    m.drop();
    m.addTransition(2, 7, 0, EQUAL, 18, 1);
    m.addAction(39, EMIT, 1, 0);
    m.addAction(39, EMIT, 2, 0);
    m.addAction(39, EMIT, 3, 0);
    joined("a next state that is joined", m);
  }

  /** "the classes are the greatest ones for which this is true": all that can be is joined. */
  private static void theGreatestClasses() {
    ProtocolMachine m = new ProtocolMachine();
    Check.addStates(m, 11);
    for (int s = 0; s < 12; s++) {
      Check.link(m, s, 0, (s + 1) % 12);
    }
    classes("a ring of 12", m, 0, 0, 0, 0, 0, 0, 0, 0, 0, 0, 0, 0);
    m.addAction(11, EMIT, 0, 0);
    classes("one of them emits", m, 0, 1, 2, 3, 4, 5, 6, 7, 8, 9, 10, 11);
    m.addAction(5, EMIT, 0, 0);
    classes("two of them emit", m, 0, 1, 2, 3, 4, 5, 0, 1, 2, 3, 4, 5);
  }

  /** The same: of a chain, each state differs from all others, the first two last of all. */
  private static void asManyClassesAsStates() {
    ProtocolMachine m = new ProtocolMachine();
    Check.addStates(m, 11);
    for (int s = 0; s < 11; s++) {
      Check.link(m, s, 0, s + 1);
    }
    classes("a chain of 12", m, 0, 1, 2, 3, 4, 5, 6, 7, 8, 9, 10, 11);
    Check.noIndex("offset(12)", m, () -> m.offset(12));
    Check.noIndex("used(12)", m, () -> m.used(12));
    Check.link(m, 11, 0, 0);
    classes("a chain that is closed", m, 0, 0, 0, 0, 0, 0, 0, 0, 0, 0, 0, 0);
  }

  /** "Classes are numbered from 0, in ascending order of their smallest states." */
  private static void numberedBySmallestStates() {
    ProtocolMachine m = new ProtocolMachine();
    Check.addStates(m, 11);
    // Reached from the greatest on; 11 and 2 are as 0 is, 10 and 4 are alike, 1 is not reached.
    for (int s : new int[] {0, 2, 11}) {
      Check.link(m, s, 0, 11);
      Check.link(m, s, 1, 10);
      Check.link(m, s, 2, 4);
      Check.link(m, s, 3, 3);
      Check.link(m, s, 4, 2);
    }
    Check.link(m, 3, 5, 3);
    Check.link(m, 1, 6, 5);
    classes("in order", m, 0, -1, 0, 1, 2, -1, -1, -1, -1, -1, 2, 0);
  }

  /** "a cell is used if its states have a transition for the event". */
  private static void usedOnceHoweverOften() {
    ProtocolMachine m = new ProtocolMachine();
    for (int t = 0; t < 40; t++) {
      Check.link(m, 0, 7, 0);
    }
    m.compile();
    Check.due("used(0)", m.used(0), 1);
    owners("40 transitions in one cell", m, -1, -1, -1, -1, -1, -1, -1, 0);
    Check.due("density()", m.density(), 0.125);
  }

  /** "Each class has a row of 8 cells, one for each event": from none used to all. */
  private static void noCellsAndEightCells() {
    ProtocolMachine m = new ProtocolMachine();
    for (int e = 0; e < 8; e++) {
      m.compile();
      Check.due("used(0) of " + e, m.used(0), e);
      Check.due("tableSize() of " + e, m.tableSize(), e);
      Check.link(m, 0, e, 0);
    }
    m.compile();
    Check.due("used(0) of 8", m.used(0), 8);
    owners("8 cells", m, 0, 0, 0, 0, 0, 0, 0, 0);
  }

  /** "those with more used cells first": here the class with the greatest number. */
  private static void moreUsedCellsFirst() {
    ProtocolMachine m = new ProtocolMachine();
    Check.addStates(m, 3);
    Check.link(m, 0, 0, 1);
    Check.link(m, 1, 0, 2);
    Check.link(m, 1, 1, 2);
    for (int e = 0; e < 8; e++) {
      Check.link(m, 2, e, 3);
    }
    offsets("1, 2, 8 and no cells", m, 10, 8, 0, 0);
    owners("1, 2, 8 and no cells", m, 2, 2, 2, 2, 2, 2, 2, 2, 1, 1, 0);
  }

  /** "of several, those of classes with smaller numbers first". */
  private static void ofSeveralTheSmallerNumbers() {
    offsets("12 of one cell", ring(12, 0), 0, 1, 2, 3, 4, 5, 6, 7, 8, 9, 10, 11);
    offsets("12 of the last cell", ring(12, 7), 0, 1, 2, 3, 4, 5, 6, 7, 8, 9, 10, 11);
    offsets("5 of all cells", ring(5, 0, 1, 2, 3, 4, 5, 6, 7), 0, 8, 16, 24, 32);
  }

  /** "at the smallest offset, from 0 on": a row without used cells stands at 0, and takes none. */
  private static void rowsWithoutUsedCells() {
    ProtocolMachine m = new ProtocolMachine();
    Check.addStates(m, 11);
    for (int s = 1; s <= 11; s++) {
      Check.link(m, 0, 0, s);
    }
    offsets("11 states without transitions", m, 0, 0);
    owners("11 states without transitions", m, 0);
    Check.due("used(1)", m.used(1), 0);
    Check.due("density()", m.density(), 1.0);
    for (int s = 1; s <= 11; s++) {
      Check.link(m, s, 0, 0);
    }
    Check.link(m, 0, 1, 0);
    offsets("each with a transition", m, 0, 2);
    for (int n = 0; n < 12; n++) {
      m.drop();
    }
    offsets("without them once more", m, 0, 0);
  }

  /** "each at the smallest offset, from 0 on, for which none of its used cells falls on ..". */
  private static void theSmallestOffset() {
    ProtocolMachine m = ring(12, 0, 7);
    offsets("12 of the ends", m, 0, 1, 2, 3, 4, 5, 6, 14, 15, 16, 17, 18);
    owners(
        "12 of the ends",
        m,
        0, 1, 2, 3, 4, 5, 6, 0, 1, 2, 3, 4, 5, 6, 7, 8, 9, 10, 11, -1, -1, 7, 8, 9, 10, 11);
    m = ring(5, 0, 2, 4, 6);
    offsets("5 of every other cell", m, 0, 1, 8, 9, 16);
    m = ring(4, 0, 1, 3);
    offsets("4 with a gap", m, 0, 4, 8, 12);
  }

  /** The same: a gap before the last cell is filled, and a row reaches beyond it. */
  private static void aRowMayHangOverTheEnd() {
    ProtocolMachine m = new ProtocolMachine();
    Check.addStates(m, 2);
    Check.link(m, 0, 5, 1);
    Check.link(m, 0, 6, 1);
    Check.link(m, 0, 7, 1);
    Check.link(m, 1, 0, 2);
    Check.link(m, 1, 7, 2);
    Check.link(m, 2, 7, 2);
    offsets("hanging over", m, 0, 1, 2);
    owners("hanging over", m, -1, 1, -1, -1, -1, 0, 0, 0, 1, 2);
    Check.due("density()", m.density(), 0.6);
  }

  /** "one long line of cells": rows of all 40 transitions that do not fit into one another. */
  private static void aLongLine() {
    int[][] events = {{0, 1, 6, 7}, {0, 2, 4, 6}};
    ProtocolMachine m = new ProtocolMachine();
    Check.addStates(m, 9);
    for (int s = 0; s < 10; s++) {
      for (int e : events[s % 2]) {
        m.addAction(Check.link(m, s, e, (s + 1) % 10), EMIT, s, 0);
      }
    }
    offsets("10 rows that do not fit", m, 0, 8, 15, 23, 30, 38, 45, 53, 60, 68);
    Check.due("tableSize()", m.tableSize(), 75);
    Check.due("density()", m.density(), 40.0 / 75.0);
    for (int s = 0; s < 10; s++) {
      for (int e : events[s % 2]) {
        Check.due("owner of state " + s + ", event " + e, m.owner(m.offset(s) + e), s);
      }
    }
    Check.due("owner(73), not taken", m.owner(73), -1);
    Check.noIndex("owner(75)", m, () -> m.owner(75));
  }

  /** "the number of the greatest taken cell, plus 1; 0 if none is taken". */
  private static void sizeByTheGreatestCell() {
    ProtocolMachine m = new ProtocolMachine();
    m.compile();
    Check.due("none", m.tableSize(), 0);
    Check.noIndex("owner(0) of none", m, () -> m.owner(0));
    Check.due("offset(0) of none", m.offset(0), 0);
    Check.due("used(0) of none", m.used(0), 0);
    for (int e = 0; e < 8; e++) {
      Check.link(m, 0, e, 0);
      m.compile();
      Check.due("event " + e + " alone", m.tableSize(), e + 1);
      m.drop();
    }
    m.compile();
    Check.due("none again", m.tableSize(), 0);
  }

  /** "A table is kept until the next call of addState, addTransition, addAction, drop or ..". */
  private static void keptUntilTheNextChange() {
    Check.CallOn[] changes = {
      ProtocolMachine::addState,
      m -> Check.link(m, 2, 7, 2),
      m -> m.addAction(0, STOP, 0, 0),
      ProtocolMachine::drop,
      m -> m.setTimerEvent(0, 7)
    };
    for (int i = 0; i < changes.length; i++) {
      ProtocolMachine m = twins();
      m.compile();
      Check.due("isCompiled() before change " + i, m.isCompiled(), true);
      changes[i].on(m);
      Check.due("isCompiled() after change " + i, m.isCompiled(), false);
      Check.noState("classOf(0) after change " + i, m, () -> m.classOf(0));
      Check.noState("offset(0) after change " + i, m, () -> m.offset(0));
      Check.noState("used(0) after change " + i, m, () -> m.used(0));
      Check.noState("tableSize() after change " + i, m, m::tableSize);
      Check.noState("owner(0) after change " + i, m, () -> m.owner(0));
      Check.noState("density() after change " + i, m, m::density);
    }
  }

  /** "that throws no exception (also if it changes nothing)". */
  private static void droppedIfNothingChanges() {
    for (int timer = 0; timer < 4; timer++) {
      ProtocolMachine m = new ProtocolMachine();
      m.compile();
      Check.due("setTimerEvent to the same", m.setTimerEvent(timer, timer), timer);
      Check.due("isCompiled()", m.isCompiled(), false);
    }
  }

  /** "until the next call .. that throws no exception": one that throws keeps it. */
  private static void keptByRefusedCalls() {
    ProtocolMachine m = ring(12, 0, 1, 2);
    for (int t = 36; t < 40; t++) {
      Check.link(m, 0, 7, 0);
    }
    for (int n = 0; n < 3; n++) {
      m.addAction(39, EMIT, n, 0);
    }
    m.compile();
    Check.noState("addState()", m, m::addState);
    Check.noState("addTransition", m, () -> Check.link(m, 0, 0, 0));
    Check.noIndex("addTransition of no event", m, () -> Check.link(m, 0, 8, 0));
    Check.noArgument("addTransition", m, () -> m.addTransition(0, 0, 0, 3, 0, 0));
    Check.noState("addAction", m, () -> m.addAction(39, EMIT, 0, 0));
    Check.noIndex("addAction to none", m, () -> m.addAction(40, EMIT, 0, 0));
    Check.noArgument("addAction of none", m, () -> m.addAction(39, 5, 0, 0));
    Check.noIndex("setTimerEvent", m, () -> m.setTimerEvent(0, 8));
    Check.due("isCompiled()", m.isCompiled(), true);
    ProtocolMachine none = new ProtocolMachine();
    none.compile();
    Check.noState("drop()", none, none::drop);
    Check.due("isCompiled() then", none.isCompiled(), true);
  }

  /** The same: no other call ends a table, be it refused or not. */
  private static void keptByAllOthers() {
    ProtocolMachine m = twins();
    m.addAction(0, START, 0, 1);
    m.addAction(0, EMIT, 1, 0);
    m.compile();
    m.happen(0);
    m.advance(1000);
    m.restart();
    m.stateCount();
    m.transitionCount();
    m.isHidden(0);
    m.value(0);
    m.left(0);
    m.fired(0);
    m.digest();
    m.compile();
    Check.answer(() -> m.happen(8));
    Check.answer(() -> m.advance(1001));
    Check.answer(() -> m.output(0));
    Check.answer(() -> m.classOf(3));
    Check.answer(() -> m.offset(2));
    Check.answer(() -> m.owner(2));
    Check.due("isCompiled()", m.isCompiled(), true);
    Check.due("tableSize()", m.tableSize(), 2);
  }

  /** "Makes the table, if there is none." */
  private static void compileIfThereIsNone() {
    ProtocolMachine m = twins();
    Check.due("isCompiled() at first", m.isCompiled(), false);
    Check.due("compile()", m.compile(), 2);
    long once = m.digest();
    Check.due("compile() again", m.compile(), 2);
    Check.due("digest() as before", m.digest(), once);
    m.drop();
    Check.due("isCompiled() then", m.isCompiled(), false);
    Check.due("compile() anew", m.compile(), 2);
    Check.due("classOf(2)", m.classOf(2), -1);
    Check.due("tableSize()", m.tableSize(), 1);
  }

  /** "Returns the number of classes.": from 1 to 12. */
  private static void classesFromOneToTwelve() {
    for (int states = 1; states <= 12; states++) {
      ProtocolMachine m = ring(states, 3);
      int last = states - 1;
      Check.due("compile() of " + states, m.compile(), states);
      Check.due("offset of the last", m.offset(last), last);
      Check.due("used of the last", m.used(last), 1);
      Check.noIndex("offset(" + states + ")", m, () -> m.offset(last + 1));
      Check.noIndex("used(" + states + ")", m, () -> m.used(last + 1));
    }
  }

  /** "its class; -1 if it was left out"; "if there is no such state". */
  private static void classOfTheLastState() {
    ProtocolMachine m = new ProtocolMachine();
    for (int states = 1; states <= 12; states++) {
      int last = states - 1;
      m.compile();
      Check.due("classOf(" + last + ")", m.classOf(last), last == 0 ? 0 : -1);
      Check.noIndex("classOf(" + states + ")", m, () -> m.classOf(last + 1));
      Check.noIndex("classOf(-1)", m, () -> m.classOf(-1));
      Check.answer(m::addState);
    }
  }

  /** "if cell is negative, or not less than the size of the table"; "-1 if it is not taken". */
  private static void ownerOfTheLastCell() {
    ProtocolMachine m = new ProtocolMachine();
    Check.link(m, 0, 0, 0);
    m.compile();
    owners("one cell", m, 0);
    m.drop();
    Check.link(m, 0, 1, 0);
    m.compile();
    owners("the second cell", m, -1, 0);
    m = ring(5, 0, 1, 2, 3, 4, 5, 6, 7);
    m.compile();
    Check.due("owner(39) of 40", m.owner(39), 4);
    ProtocolMachine full = m;
    Check.noIndex("owner(40) of 40", full, () -> full.owner(40));
  }

  /** "the number of taken cells divided by the size of the table; 1 if its size is 0". */
  private static void densityFromLeastToMost() {
    ProtocolMachine m = new ProtocolMachine();
    m.compile();
    Check.due("of size 0", m.density(), 1.0);
    for (int e = 0; e < 8; e++) {
      Check.link(m, 0, e, 0);
      m.compile();
      Check.due("event " + e + " alone", m.density(), 1.0 / (e + 1));
      m.drop();
    }
    m = ring(5, 0, 1, 2, 3, 4, 5, 6, 7);
    m.compile();
    Check.due("40 of 40", m.density(), 1.0);
    m = ring(12, 0, 7);
    m.compile();
    Check.due("24 of 26", m.density(), 24.0 / 26.0);
  }

  /** The checksum of these numbers before it wraps around. */
  private static BigInteger wide(long... numbers) {
    BigInteger d = BigInteger.valueOf(127);
    for (long x : numbers) {
      d = d.multiply(BigInteger.valueOf(31)).add(BigInteger.valueOf(x));
    }
    return d;
  }

  /** "which wraps around as a 64-bit integer": that of a new object does already. */
  private static void digestWrapsAround() {
    BigInteger ofANewOne = wide(1, 0, 0, 0, 0, 0, 0, -1, -1, -1, -1, 0, 0);
    Check.due("it is wider than 64 bits", ofANewOne.bitLength() > 64, true);
    Check.due("digest()", new ProtocolMachine().digest(), ofANewOne.longValue());
    ProtocolMachine m = new ProtocolMachine();
    long[] numbers = new long[2 + 40 * 5 + 11];
    for (int t = 0; t < 40; t++) {
      Check.link(m, 0, t % 8, 0);
      numbers[2 + 5 * t + 1] = t % 8;
    }
    numbers[0] = 1;
    numbers[1] = 40;
    for (int timer = 0; timer < 4; timer++) {
      numbers[202 + 5 + timer] = -1;
    }
    Check.due("digest() of 40 transitions", m.digest(), wide(numbers).longValue());
  }

  /** "for each transition ..; the present state, the time, the variables, left of each timer". */
  private static void digestOfEachNumber() {
    ProtocolMachine m = new ProtocolMachine();
    Check.addStates(m, 11);
    Check.link(m, 0, 7, 11);
    m.addAction(0, SET, 0, -1000);
    m.addAction(0, ADD, 2, 1000);
    m.addAction(0, START, 3, 1000);
    Check.link(m, 11, 0, 11);
    m.addAction(1, EMIT, 99, 0);
    m.addAction(1, START, 0, 1);
    m.advance(1000);
    m.happen(7);
    m.happen(0);
    m.advance(998);
    m.happen(6);
    Check.due(
        "digest()",
        m.digest(),
        wide(
                12, 2, 0, 7, 11, 3, 1, 11, 0, 11, 2, 999, 11, 1998, -1000, 0, 1000, 1, -1, -1, 2,
                999, 1)
            .longValue());
    m.restart();
    Check.due(
        "digest() after restart",
        m.digest(),
        wide(12, 2, 0, 7, 11, 3, 0, 11, 0, 11, 2, 0, 0, 0, 0, 0, 0, -1, -1, -1, -1, 0, 0)
            .longValue());
  }

  /** "if there is a table, the number of its classes, and the offset of each". */
  private static void digestWithAndWithoutATable() {
    ProtocolMachine m = new ProtocolMachine();
    long without = m.digest();
    m.compile();
    Check.due("with a table of one class", m.digest(), (without * 31 + 1) * 31);
    m.setTimerEvent(0, 0);
    Check.due("the table is gone", m.digest(), without);
    m = ring(12, 0, 7);
    long want = m.digest() * 31 + 12;
    for (int offset : new int[] {0, 1, 2, 3, 4, 5, 6, 14, 15, 16, 17, 18}) {
      want = want * 31 + offset;
    }
    m.compile();
    Check.due("with a table of 12 classes", m.digest(), want);
  }
}
