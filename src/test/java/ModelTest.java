import java.util.Random;

/** All promises: long runs of calls, each of which must answer as the Model does. */
public final class ModelTest {
  private static final int RUNS = 3000;
  private static final int CALLS = 512;

  private final Random random;
  private final ProtocolMachine machine = new ProtocolMachine();
  private final Model model = new Model();

  /** Few kinds of numbers make equal states likely; many make all else likely. */
  private final boolean few;

  private final int buildingCalls;

  private ModelTest(long seed) {
    random = new Random(seed);
    few = random.nextBoolean();
    buildingCalls = random.nextInt(160);
  }

  public static void main(String[] args) {
    for (int run = 0; run < RUNS; run++) {
      if (!new ModelTest(run).runIsAsDue(run)) {
        System.exit(1);
      }
    }
  }

  private boolean runIsAsDue(int run) {
    for (int call = 0; call < CALLS; call++) {
      boolean building = call < buildingCalls || random.nextInt(12) == 0;
      String[] answers = building ? build() : random.nextInt(3) == 0 ? drive() : ask();
      if (!answers[1].equals(answers[2])) {
        System.out.println(
            "run " + run + ", call " + call + ": " + answers[0] + " answered " + answers[1]
                + ", due is " + answers[2]);
        return false;
      }
    }
    return true;
  }

  /** A number from 0 on that is below the count, or now and then just outside. */
  private int pick(int count) {
    return random.nextInt(25) == 0 ? random.nextInt(count + 4) - 2 : random.nextInt(Math.max(1, count));
  }

  private int pickNumber() {
    if (few) {
      return random.nextInt(2);
    }
    int[] edges = {-1001, -1000, -999, -1, 0, 1, 999, 1000, 1001};
    return switch (random.nextInt(3)) {
      case 0 -> edges[random.nextInt(edges.length)];
      case 1 -> random.nextInt(7) - 3;
      default -> random.nextInt(2003) - 1001;
    };
  }

  private int pickDuration() {
    return random.nextInt(3) == 0 ? random.nextInt(1003) : few ? 1 + random.nextInt(2) : 1 + random.nextInt(12);
  }

  private String[] both(String call, Check.Call ofMachine, Check.Call ofModel) {
    return new String[] {call, Check.answer(ofMachine), Check.answer(ofModel)};
  }

  private String[] build() {
    int s = pick(model.stateCount());
    int e = pick(few ? 3 : 8);
    switch (random.nextInt(10)) {
      case 0:
        return both("addState()", machine::addState, model::addState);
      case 1:
        return random.nextInt(3) == 0
            ? both("drop()", machine::drop, model::drop)
            : both("addState()", machine::addState, model::addState);
      case 2:
        int timer = pick(4);
        return both(
            "setTimerEvent(" + timer + ", " + e + ")",
            () -> machine.setTimerEvent(timer, e),
            () -> model.setTimerEvent(timer, e));
      case 3:
      case 4:
      case 5:
        return addAction();
      default:
        int v = random.nextInt(few ? 4 : 2) == 0 ? pick(3) : -1;
        int relation = pick(3);
        int number = pickNumber();
        int next = pick(model.stateCount());
        return both(
            "addTransition(" + s + ", " + e + ", " + v + ", " + relation + ", " + number + ", " + next + ")",
            () -> machine.addTransition(s, e, v, relation, number, next),
            () -> model.addTransition(s, e, v, relation, number, next));
    }
  }

  private String[] addAction() {
    int t = pick(model.transitionCount());
    int kind = few ? 2 + pick(3) : pick(5);
    int[] counts = {3, 3, 4, 4, 100};
    int a = few ? random.nextInt(2) : pick(counts[Math.floorMod(kind, 5)]);
    int b = kind == 2 ? pickDuration() : pickNumber();
    return both(
        "addAction(" + t + ", " + kind + ", " + a + ", " + b + ")",
        () -> machine.addAction(t, kind, a, b),
        () -> model.addAction(t, kind, a, b));
  }

  private String[] drive() {
    int e = pick(few ? 3 : 8);
    switch (random.nextInt(12)) {
      case 0:
        return random.nextInt(3) == 0
            ? both("restart()", machine::restart, model::restart)
            : both("compile()", machine::compile, model::compile);
      case 1:
      case 2:
        return both("compile()", machine::compile, model::compile);
      case 3:
      case 4:
      case 5:
        int ticks = pickDuration();
        return both("advance(" + ticks + ")", () -> machine.advance(ticks), () -> model.advance(ticks));
      default:
        return both("happen(" + e + ")", () -> machine.happen(e), () -> model.happen(e));
    }
  }

  private String[] ask() {
    int t = pick(model.transitionCount());
    int s = pick(model.stateCount());
    switch (random.nextInt(21)) {
      case 0:
        return both("stateCount()", machine::stateCount, model::stateCount);
      case 1:
        return both("transitionCount()", machine::transitionCount, model::transitionCount);
      case 2:
        return both("isHidden(" + t + ")", () -> machine.isHidden(t), () -> model.isHidden(t));
      case 3:
        return both("state()", machine::state, model::state);
      case 4:
        return both("time()", machine::time, model::time);
      case 5:
        int v = pick(3);
        return both("value(" + v + ")", () -> machine.value(v), () -> model.value(v));
      case 6:
        int timer = pick(4);
        return both("left(" + timer + ")", () -> machine.left(timer), () -> model.left(timer));
      case 7:
        return both("emitted()", machine::emitted, model::emitted);
      case 8:
        int i = pick(Math.min(60, model.emitted()));
        return both("output(" + i + ")", () -> machine.output(i), () -> model.output(i));
      case 9:
        return both("fired(" + t + ")", () -> machine.fired(t), () -> model.fired(t));
      case 10:
        return both("ignored()", machine::ignored, model::ignored);
      case 11:
        return both("isCompiled()", machine::isCompiled, model::isCompiled);
      case 12:
        return both("tableSize()", machine::tableSize, model::tableSize);
      case 13:
        return both("density()", machine::density, model::density);
      case 14:
        int cell = pick(model.isCompiled() ? model.tableSize() : 9);
        return both("owner(" + cell + ")", () -> machine.owner(cell), () -> model.owner(cell));
      case 15:
        return both("offset(" + s + ")", () -> machine.offset(s), () -> model.offset(s));
      case 16:
        return both("used(" + s + ")", () -> machine.used(s), () -> model.used(s));
      case 17:
        return both("classOf(" + s + ")", () -> machine.classOf(s), () -> model.classOf(s));
      default:
        return both("digest()", machine::digest, model::digest);
    }
  }
}
