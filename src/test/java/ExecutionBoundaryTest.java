/**
 * The boundary cases that the paragraph "Execution" and promises 10 to 20 name, a method for each
 * sentence. What is refused on either side of a boundary, RefusalTest looks at on many objects.
 */
public final class ExecutionBoundaryTest {
  private static final int SET = 0;
  private static final int ADD = 1;
  private static final int START = 2;
  private static final int STOP = 3;
  private static final int EMIT = 4;

  private static final int EQUAL = 1;

  public static void main(String[] args) {
    atFirst();
    theFirstInTheOrderOfNumbers();
    theFirstAndTheLastOfForty();
    guardsAreAskedBeforeActions();
    noActionsAndThreeActions();
    eachActionAlone();
    fromTheFirstToTheLastState();
    ignoredIfThereIsNone();
    startAlsoIfItRuns();
    startOfItselfWhenTaken();
    stopOfWhatDoesNotRun();
    stopOfWhatIsDueNow();
    dueAtTheTargetTime();
    dueFirst();
    ofSeveralTheSmallestNumber();
    ofSeveralAlsoTheOneJustStarted();
    timeIsTheDueTimeMeanwhile();
    timerDoesNotRunInItsOwnEvent();
    manyTimersInOneCall();
    thenTheTargetTime();
    noTicksAndTheMostTicks();
    eventIsTheOneOfThatTime();
    keepsTheFirstSixty();
    keepsSixtyInTheMidstOfATransition();
    nothingPutOutYet();
    restartOfANewOne();
    restartForgetsAllOfTheRun();
    restartKeepsTheProtocol();
    happenTellsWhatFired();
    valueOfEachVariable();
    leftFromMostToNone();
    firedSinceItWasAdded();
    ignoredByTimersToo();
    theLastOf512Calls();
    Check.end();
  }

  /** A transition of state 0 to itself, with one action. */
  private static int act(ProtocolMachine m, int event, int kind, int a, int b) {
    int t = Check.link(m, 0, event, 0);
    m.addAction(t, kind, a, b);
    return t;
  }

  /** "0 at first; the time is 0 at first, all variables are 0, no timer runs". */
  private static void atFirst() {
    ProtocolMachine m = new ProtocolMachine();
    Check.due("state()", m.state(), 0);
    Check.due("time()", m.time(), 0L);
    for (int v = 0; v < 3; v++) {
      Check.due("value(" + v + ")", m.value(v), 0);
    }
    for (int timer = 0; timer < 4; timer++) {
      Check.due("left(" + timer + ")", m.left(timer), -1);
    }
    Check.due("advance(1000)", m.advance(1000), 0);
    Check.due("ignored()", m.ignored(), 0);
  }

  /** "the first transition, in the order of their numbers, .. whose guard is true". */
  private static void theFirstInTheOrderOfNumbers() {
    ProtocolMachine m = new ProtocolMachine();
    m.addTransition(0, 0, 0, EQUAL, 1, 0);
    m.addTransition(0, 0, 1, EQUAL, 0, 0);
    Check.link(m, 0, 0, 0);
    act(m, 1, SET, 1, 1);
    act(m, 2, SET, 0, 1);
    Check.due("the second's guard is true", m.happen(0), 1);
    m.happen(1);
    Check.due("the third has no guard", m.happen(0), 2);
    m.happen(2);
    Check.due("all are true", m.happen(0), 0);
  }

  /** The same sentence, with as many transitions as there may be. */
  private static void theFirstAndTheLastOfForty() {
    ProtocolMachine m = new ProtocolMachine();
    for (int t = 0; t < 40; t++) {
      m.addTransition(0, 7, 2, EQUAL, t, 0);
      m.addAction(t, ADD, 2, 1);
    }
    for (int t = 0; t < 40; t++) {
      Check.due("happen(7)", m.happen(7), t);
    }
    Check.due("none of 40", m.happen(7), -1);
    Check.due("value(2)", m.value(2), 40);
  }

  /** "whose guard is true .. fires: its actions are done": they do not change what fires. */
  private static void guardsAreAskedBeforeActions() {
    ProtocolMachine m = new ProtocolMachine();
    m.addTransition(0, 0, 0, EQUAL, 0, 0);
    m.addAction(0, SET, 0, 1);
    m.addTransition(0, 0, 0, EQUAL, 1, 0);
    m.addAction(1, SET, 0, 2);
    Check.due("happen(0)", m.happen(0), 0);
    Check.due("one transition alone fires", m.value(0), 1);
    Check.due("happen(0) then", m.happen(0), 1);
    Check.due("happen(0) at last", m.happen(0), -1);
    Check.due("value(0)", m.value(0), 2);
  }

  /** "its actions are done in order". */
  private static void noActionsAndThreeActions() {
    ProtocolMachine m = new ProtocolMachine();
    Check.link(m, 0, 0, 0);
    Check.due("no actions", m.happen(0), 0);
    Check.due("emitted()", m.emitted(), 0);
    act(m, 1, SET, 0, 5);
    m.addAction(1, ADD, 0, 5);
    m.addAction(1, SET, 0, 7);
    m.happen(1);
    Check.due("SET, ADD, SET", m.value(0), 7);
    act(m, 2, STOP, 1, 0);
    m.addAction(2, START, 1, 3);
    act(m, 3, START, 1, 3);
    m.addAction(3, STOP, 1, 0);
    m.happen(2);
    Check.due("STOP, START", m.left(1), 3);
    m.happen(3);
    Check.due("START, STOP", m.left(1), -1);
    act(m, 4, START, 2, 1000);
    m.addAction(4, START, 2, 1);
    m.addAction(4, START, 2, 500);
    m.happen(4);
    Check.due("START, START, START", m.left(2), 500);
  }

  /** The variables, what is left of the timers, and how many numbers were put out. */
  private static String effects(int kind, int a, int b) {
    ProtocolMachine m = new ProtocolMachine();
    Check.link(m, 0, 7, 0);
    for (int timer = 1; timer < 4; timer++) {
      m.addAction(0, START, timer, 9);
    }
    act(m, 6, kind, a, b);
    m.happen(7);
    m.happen(6);
    StringBuilder s = new StringBuilder();
    for (int v = 0; v < 3; v++) {
      s.append(m.value(v)).append(' ');
    }
    for (int timer = 0; timer < 4; timer++) {
      s.append(m.left(timer)).append(' ');
    }
    return s.append(m.emitted()).toString();
  }

  /** "The actions: SET .. ADD .. START .. STOP .. EMIT": each does nothing else. */
  private static void eachActionAlone() {
    Check.due("SET of the first", effects(SET, 0, 1000), "1000 0 0 -1 9 9 9 0");
    Check.due("SET of the last", effects(SET, 2, -1000), "0 0 -1000 -1 9 9 9 0");
    Check.due("ADD to the first", effects(ADD, 0, 1000), "1000 0 0 -1 9 9 9 0");
    Check.due("ADD to the last", effects(ADD, 2, -1000), "0 0 -1000 -1 9 9 9 0");
    Check.due("START of the first", effects(START, 0, 1), "0 0 0 1 9 9 9 0");
    Check.due("START of the last", effects(START, 3, 1000), "0 0 0 -1 9 9 1000 0");
    Check.due("STOP of the first", effects(STOP, 0, 1), "0 0 0 -1 9 9 9 0");
    Check.due("STOP of the last", effects(STOP, 3, 1000), "0 0 0 -1 9 9 -1 0");
    Check.due("EMIT of the first", effects(EMIT, 0, 1), "0 0 0 -1 9 9 9 1");
    Check.due("EMIT of the last", effects(EMIT, 99, 1000), "0 0 0 -1 9 9 9 1");
  }

  /** "and its next state becomes the present state". */
  private static void fromTheFirstToTheLastState() {
    ProtocolMachine m = new ProtocolMachine();
    Check.addStates(m, 11);
    Check.link(m, 0, 0, 11);
    Check.link(m, 11, 0, 11);
    Check.link(m, 11, 1, 0);
    m.happen(0);
    Check.due("to the last", m.state(), 11);
    m.happen(0);
    Check.due("to itself", m.state(), 11);
    m.happen(1);
    Check.due("to the first", m.state(), 0);
  }

  /** "If there is none, the event is ignored."; "-1 if the event was ignored". */
  private static void ignoredIfThereIsNone() {
    ProtocolMachine m = new ProtocolMachine();
    m.addState();
    Check.due("no transitions", m.happen(0), -1);
    Check.link(m, 1, 0, 1);
    Check.due("of another state", m.happen(0), -1);
    Check.link(m, 0, 1, 1);
    Check.due("of another event", m.happen(0), -1);
    m.addTransition(0, 0, 0, 0, -1000, 1);
    m.addTransition(0, 0, 0, 2, 1000, 1);
    Check.due("no guard is true", m.happen(0), -1);
    Check.due("ignored()", m.ignored(), 4);
    Check.due("state()", m.state(), 0);
    Check.due("time()", m.time(), 0L);
  }

  /** "at the present time plus the duration (also if it runs already)". */
  private static void startAlsoIfItRuns() {
    ProtocolMachine m = new ProtocolMachine();
    act(m, 7, START, 0, 10);
    act(m, 6, START, 0, 3);
    m.happen(7);
    m.advance(9);
    m.happen(7);
    Check.due("started again a tick before", m.left(0), 10);
    Check.due("not due at its first time", m.advance(1), 0);
    m.happen(6);
    Check.due("started again with less", m.left(0), 3);
    Check.due("advance(3)", m.advance(3), 1);
    Check.due("due once alone", m.advance(1000), 0);
  }

  /** The same: a timer that its own event starts, each tick. */
  private static void startOfItselfWhenTaken() {
    ProtocolMachine m = new ProtocolMachine();
    act(m, 0, START, 0, 1);
    m.happen(0);
    Check.due("advance(1)", m.advance(1), 1);
    Check.due("left(0)", m.left(0), 1);
    Check.due("advance(0)", m.advance(0), 0);
    Check.due("advance(2)", m.advance(2), 2);
    Check.due("fired(0)", m.fired(0), 4);
  }

  /** "STOP lets it not run any more". */
  private static void stopOfWhatDoesNotRun() {
    ProtocolMachine m = new ProtocolMachine();
    act(m, 7, STOP, 2, 0);
    Check.due("happen(7)", m.happen(7), 0);
    Check.due("never started", m.left(2), -1);
    act(m, 6, START, 2, 1);
    m.happen(6);
    m.happen(7);
    Check.due("stopped before it is due", m.advance(1), 0);
    m.happen(7);
    Check.due("stopped twice", m.left(2), -1);
    m.happen(6);
    Check.due("started behind a stop", m.advance(1), 1);
  }

  /** The same: of two that are due at one time, the first one's event stops the second. */
  private static void stopOfWhatIsDueNow() {
    ProtocolMachine m = new ProtocolMachine();
    act(m, 7, START, 1, 4);
    m.addAction(0, START, 2, 4);
    act(m, 1, STOP, 2, 0);
    act(m, 2, STOP, 1, 0);
    m.happen(7);
    Check.due("advance(4)", m.advance(4), 1);
    Check.due("the first was taken", m.fired(1), 1);
    Check.due("the second was stopped", m.fired(2), 0);
    Check.due("left(2)", m.left(2), -1);
  }

  /** "as long as a timer runs that is due at the target time or earlier". */
  private static void dueAtTheTargetTime() {
    for (int ticks = 4; ticks <= 6; ticks++) {
      ProtocolMachine m = new ProtocolMachine();
      act(m, 7, START, 3, 5);
      m.happen(7);
      Check.due("advance(" + ticks + ") of 5", m.advance(ticks), ticks < 5 ? 0 : 1);
      Check.due("left(3)", m.left(3), ticks < 5 ? 1 : -1);
      Check.due("time()", m.time(), (long) ticks);
    }
    ProtocolMachine m = new ProtocolMachine();
    act(m, 7, START, 3, 1000);
    m.happen(7);
    Check.due("advance(999)", m.advance(999), 0);
    Check.due("left(3)", m.left(3), 1);
    m.happen(7);
    Check.due("advance(1000)", m.advance(1000), 1);
  }

  /** "the one that is due first". */
  private static void dueFirst() {
    ProtocolMachine m = new ProtocolMachine();
    for (int timer = 0; timer < 4; timer++) {
      act(m, timer, EMIT, timer, 0);
    }
    act(m, 7, START, 0, 1000);
    m.addAction(4, START, 1, 999);
    m.addAction(4, START, 2, 2);
    act(m, 6, START, 3, 1);
    m.happen(7);
    m.happen(6);
    Check.due("advance(1000)", m.advance(1000), 4);
    for (int i = 0; i < 4; i++) {
      Check.due("output(" + i + ")", m.output(i), 3 - i);
    }
  }

  /** "(of several, the one with the smallest number)". */
  private static void ofSeveralTheSmallestNumber() {
    ProtocolMachine m = new ProtocolMachine();
    for (int timer = 0; timer < 4; timer++) {
      act(m, timer, EMIT, timer, 0);
      act(m, 4 + timer, START, timer, 4 - timer);
    }
    for (int timer = 0; timer < 4; timer++) {
      m.happen(4 + timer);
      m.advance(timer < 3 ? 1 : 0);
    }
    // They were started one tick after the other, the later ones with less.
    Check.due("none was due at 3", m.emitted(), 0);
    Check.due("advance(1)", m.advance(1), 4);
    for (int i = 0; i < 4; i++) {
      Check.due("output(" + i + ")", m.output(i), i);
    }
  }

  /** The same: what the event of a timer starts is among those that are due later. */
  private static void ofSeveralAlsoTheOneJustStarted() {
    ProtocolMachine m = new ProtocolMachine();
    act(m, 7, START, 2, 1);
    m.addAction(0, START, 3, 2);
    act(m, 2, START, 0, 1);
    m.addAction(1, EMIT, 2, 0);
    act(m, 3, EMIT, 3, 0);
    act(m, 0, EMIT, 0, 0);
    m.happen(7);
    Check.due("advance(2)", m.advance(2), 3);
    Check.due("output(0)", m.output(0), 2);
    Check.due("output(1), started last", m.output(1), 0);
    Check.due("output(2)", m.output(2), 3);
  }

  /** "is taken: the time becomes its due time". */
  private static void timeIsTheDueTimeMeanwhile() {
    ProtocolMachine m = new ProtocolMachine();
    act(m, 7, START, 0, 1);
    m.addAction(0, START, 1, 1000);
    act(m, 0, START, 2, 1000);
    act(m, 1, START, 3, 1);
    m.happen(7);
    Check.due("advance(1000)", m.advance(1000), 2);
    Check.due("started at 1", m.left(2), 1);
    Check.due("started at 1000", m.left(3), 1);
    Check.due("advance(1)", m.advance(1), 2);
  }

  /** "it does not run any more, and its event happens". */
  private static void timerDoesNotRunInItsOwnEvent() {
    ProtocolMachine m = new ProtocolMachine();
    act(m, 7, START, 0, 2);
    act(m, 0, STOP, 0, 0);
    m.happen(7);
    Check.due("its event stops it", m.advance(2), 1);
    Check.due("left(0)", m.left(0), -1);
    m.drop();
    m.happen(7);
    Check.due("its event is ignored", m.advance(2), 1);
    Check.due("ignored()", m.ignored(), 1);
    Check.due("left(0) then", m.left(0), -1);
  }

  /** "as long as a timer runs": as many as there can be, each timer at each tick. */
  private static void manyTimersInOneCall() {
    ProtocolMachine m = new ProtocolMachine();
    for (int timer = 0; timer < 4; timer++) {
      act(m, timer, START, timer, 1);
      m.happen(timer);
    }
    Check.due("advance(0)", m.advance(0), 0);
    Check.due("advance(1)", m.advance(1), 4);
    Check.due("advance(1000)", m.advance(1000), 4000);
    Check.due("advance(1000) again", m.advance(1000), 4000);
    for (int timer = 0; timer < 4; timer++) {
      Check.due("left(" + timer + ")", m.left(timer), 1);
      Check.due("fired(" + timer + ")", m.fired(timer), 2002);
    }
    Check.due("time()", m.time(), 2001L);
  }

  /** "Then the time becomes the target time." */
  private static void thenTheTargetTime() {
    ProtocolMachine m = new ProtocolMachine();
    Check.due("without a timer", m.advance(1000), 0);
    Check.due("time()", m.time(), 1000L);
    act(m, 7, START, 0, 1);
    m.happen(7);
    m.advance(1000);
    Check.due("time() behind a timer", m.time(), 2000L);
    m.happen(7);
    m.advance(1);
    Check.due("time() at a timer", m.time(), 2001L);
  }

  /** "if ticks is not 0 to 1000". */
  private static void noTicksAndTheMostTicks() {
    ProtocolMachine m = new ProtocolMachine();
    Check.due("advance(0)", m.advance(0), 0);
    Check.due("time() then", m.time(), 0L);
    Check.due("advance(1000)", m.advance(1000), 0);
    Check.noArgument("advance(-1)", m, () -> m.advance(-1));
    Check.noArgument("advance(1001)", m, () -> m.advance(1001));
    Check.due("time()", m.time(), 1000L);
  }

  /** "its event happens": the one that the timer has when it is taken. */
  private static void eventIsTheOneOfThatTime() {
    ProtocolMachine m = new ProtocolMachine();
    act(m, 6, START, 0, 2);
    act(m, 0, EMIT, 10, 0);
    act(m, 7, EMIT, 17, 0);
    m.happen(6);
    m.advance(1);
    m.setTimerEvent(0, 7);
    Check.due("left(0) stays", m.left(0), 1);
    m.advance(1);
    Check.due("output(0)", m.output(0), 17);
    for (int timer = 0; timer < 4; timer++) {
      m.setTimerEvent(timer, 7);
    }
    act(m, 5, START, 1, 1);
    m.addAction(3, START, 2, 1);
    m.addAction(3, START, 3, 1);
    m.happen(5);
    Check.due("one event of three timers", m.advance(1), 3);
    Check.due("fired(2)", m.fired(2), 4);
  }

  /** "The output keeps the first 60 numbers; what is emitted behind them is counted only." */
  private static void keepsTheFirstSixty() {
    ProtocolMachine m = new ProtocolMachine();
    for (int e = 0; e < 7; e++) {
      act(m, e, EMIT, 90 + e, 0);
    }
    for (int n = 0; n < 62; n++) {
      Check.due("emitted()", m.emitted(), n);
      int kept = Math.min(60, n);
      Check.noIndex("output(" + kept + ") of " + n, m, () -> m.output(kept));
      m.happen(n % 7);
      if (n < 60) {
        Check.due("output(" + n + ")", m.output(n), 90 + n % 7);
      }
    }
    Check.due("output(0) then", m.output(0), 90);
    Check.due("output(59) then", m.output(59), 90 + 59 % 7);
    Check.due("emitted() then", m.emitted(), 62);
  }

  /** The same: the 60th number is not a transition's last one. */
  private static void keepsSixtyInTheMidstOfATransition() {
    ProtocolMachine m = new ProtocolMachine();
    act(m, 0, EMIT, 0, 0);
    act(m, 1, EMIT, 50, 0);
    m.addAction(1, EMIT, 51, 0);
    m.addAction(1, EMIT, 52, 0);
    for (int n = 0; n < 58; n++) {
      m.happen(0);
    }
    m.happen(1);
    Check.due("emitted()", m.emitted(), 61);
    Check.due("output(57)", m.output(57), 0);
    Check.due("output(58)", m.output(58), 50);
    Check.due("output(59)", m.output(59), 51);
    Check.noIndex("output(60)", m, () -> m.output(60));
    m.happen(1);
    Check.due("output(59) then", m.output(59), 51);
    Check.due("emitted() then", m.emitted(), 64);
  }

  /** "if there is no such index in the output that is kept": nothing yet. */
  private static void nothingPutOutYet() {
    ProtocolMachine m = new ProtocolMachine();
    Check.noIndex("output(0)", m, () -> m.output(0));
    Check.noIndex("output(-1)", m, () -> m.output(-1));
    act(m, 0, EMIT, 0, 0);
    Check.noIndex("output(0) before the event", m, () -> m.output(0));
    m.happen(0);
    Check.due("output(0) of a 0", m.output(0), 0);
    Check.noIndex("output(1)", m, () -> m.output(1));
    Check.noIndex("output(-1) of one", m, () -> m.output(-1));
  }

  /** "Returns the time before.": nothing yet, and again. */
  private static void restartOfANewOne() {
    ProtocolMachine m = new ProtocolMachine();
    long asNew = m.digest();
    Check.due("restart()", m.restart(), 0L);
    Check.due("digest()", m.digest(), asNew);
    m.advance(1000);
    m.advance(1000);
    Check.due("restart() at 2000", m.restart(), 2000L);
    Check.due("restart() again", m.restart(), 0L);
    Check.due("digest() then", m.digest(), asNew);
  }

  /** "the time, the variables and all counts are 0, no timer runs, the output is empty, ..". */
  private static void restartForgetsAllOfTheRun() {
    ProtocolMachine m = new ProtocolMachine();
    m.addState();
    for (int e = 0; e < 4; e++) {
      Check.link(m, 0, e, e == 3 ? 1 : 0);
      m.addAction(e, START, e, 1000);
      m.addAction(e, e == 3 ? EMIT : SET, e, e == 0 ? -1000 : 1000);
      m.addAction(e, EMIT, 99, 0);
    }
    long atFirst = m.digest();
    for (int n = 0; n < 62; n++) {
      m.happen(n % 3);
    }
    m.happen(3);
    m.happen(3);
    m.advance(999);
    Check.due("restart()", m.restart(), 999L);
    Check.due("digest()", m.digest(), atFirst);
    Check.due("state()", m.state(), 0);
    Check.due("emitted()", m.emitted(), 0);
    Check.due("ignored()", m.ignored(), 0);
    Check.noIndex("output(0)", m, () -> m.output(0));
    Check.due("no timer is due", m.advance(1000), 0);
    m.happen(3);
    Check.due("the first number is kept again", m.output(0), 3);
  }

  /** "what belongs to the protocol (events of timers, too) stays". */
  private static void restartKeepsTheProtocol() {
    ProtocolMachine m = new ProtocolMachine();
    Check.addStates(m, 11);
    for (int t = 0; t < 40; t++) {
      Check.link(m, 0, t % 8, 0);
    }
    m.addAction(6, START, 3, 1);
    m.setTimerEvent(3, 7);
    int classes = m.compile();
    m.restart();
    Check.due("stateCount()", m.stateCount(), 12);
    Check.due("transitionCount()", m.transitionCount(), 40);
    Check.due("isCompiled()", m.isCompiled(), true);
    Check.due("compile()", m.compile(), classes);
    Check.due("happen(6)", m.happen(6), 6);
    Check.due("advance(1)", m.advance(1), 1);
    Check.due("the event of timer 3", m.fired(7), 1);
    Check.due("setTimerEvent(3, 3)", m.setTimerEvent(3, 3), 7);
  }

  /** "Returns the transition that fired": the first is 0, and no event is -1's. */
  private static void happenTellsWhatFired() {
    ProtocolMachine m = new ProtocolMachine();
    Check.due("happen(0) of none", m.happen(0), -1);
    Check.due("happen(7) of none", m.happen(7), -1);
    Check.link(m, 0, 7, 0);
    Check.due("happen(7)", m.happen(7), 0);
    Check.due("happen(0)", m.happen(0), -1);
    Check.noIndex("happen(8)", m, () -> m.happen(8));
    Check.noIndex("happen(-1)", m, () -> m.happen(-1));
    Check.due("ignored()", m.ignored(), 3);
  }

  /** "if there is no such variable"; each has its own value. */
  private static void valueOfEachVariable() {
    ProtocolMachine m = new ProtocolMachine();
    int[] values = {-1000, 0, 1000};
    for (int v = 0; v < 3; v++) {
      act(m, v, SET, v, values[v]);
      m.happen(v);
    }
    for (int v = 0; v < 3; v++) {
      Check.due("value(" + v + ")", m.value(v), values[v]);
    }
    Check.noIndex("value(3)", m, () -> m.value(3));
    Check.noIndex("value(-1)", m, () -> m.value(-1));
  }

  /** "in how many ticks it is due; -1 if it does not run": from 1000 down to 1, never 0. */
  private static void leftFromMostToNone() {
    ProtocolMachine m = new ProtocolMachine();
    act(m, 7, START, 0, 1000);
    m.advance(1);
    m.happen(7);
    Check.due("left(0)", m.left(0), 1000);
    m.advance(0);
    Check.due("left(0) without a tick", m.left(0), 1000);
    m.advance(1);
    Check.due("left(0) a tick later", m.left(0), 999);
    m.advance(998);
    Check.due("left(0) a tick before", m.left(0), 1);
    m.advance(1);
    Check.due("left(0) when it was taken", m.left(0), -1);
  }

  /** "how often it fired since the beginning, or since it was added". */
  private static void firedSinceItWasAdded() {
    ProtocolMachine m = new ProtocolMachine();
    for (int t = 0; t < 40; t++) {
      m.addTransition(0, 0, 0, EQUAL, t == 39 ? 0 : 1, 0);
    }
    m.happen(0);
    m.happen(0);
    Check.due("fired(39)", m.fired(39), 2);
    Check.due("fired(0)", m.fired(0), 0);
    m.drop();
    m.addTransition(0, 0, 0, EQUAL, 0, 0);
    Check.due("fired(39) when it was added again", m.fired(39), 0);
    m.happen(0);
    Check.due("fired(39) then", m.fired(39), 1);
    m.addAction(39, EMIT, 0, 0);
    Check.due("fired(39) with a new action", m.fired(39), 1);
    m.restart();
    Check.due("fired(39) since the beginning", m.fired(39), 0);
    Check.noIndex("fired(40)", m, () -> m.fired(40));
  }

  /** "how many events were ignored": those of timers, too; refused calls are no events. */
  private static void ignoredByTimersToo() {
    ProtocolMachine m = new ProtocolMachine();
    Check.due("ignored() at first", m.ignored(), 0);
    act(m, 7, START, 0, 1);
    m.addAction(0, START, 1, 1);
    m.happen(7);
    Check.due("ignored() when one fired", m.ignored(), 0);
    m.advance(1);
    Check.due("ignored() of two timers", m.ignored(), 2);
    Check.answer(() -> m.happen(8));
    Check.due("ignored() when one was refused", m.ignored(), 2);
    m.happen(6);
    Check.due("ignored()", m.ignored(), 3);
  }

  /** "An object is used for at most 512 calls": with the greatest counts that they can reach. */
  private static void theLastOf512Calls() {
    ProtocolMachine m = new ProtocolMachine();
    for (int timer = 0; timer < 4; timer++) {
      act(m, timer, START, timer, 1);
      m.addAction(timer, EMIT, 10 + timer, 0);
      m.addAction(timer, EMIT, 20 + timer, 0);
      m.happen(timer);
    }
    for (int call = 20; call < 504; call++) {
      Check.due("advance(1000), call " + call, m.advance(1000), 4000);
    }
    Check.due("time()", m.time(), 484_000L);
    Check.due("emitted()", m.emitted(), 8 * 484_001);
    Check.due("fired(3)", m.fired(3), 484_001);
    Check.due("ignored()", m.ignored(), 0);
    Check.due("output(59)", m.output(59), 21);
    Check.due("left(0)", m.left(0), 1);
    Check.due("happen(7)", m.happen(7), -1);
    Check.due("restart(), the 512th call", m.restart(), 484_000L);
  }
}
