import java.util.Random;

/** All promises: long runs of calls, the same ones at each start, held against the plain model. */
public final class RandomRunsTest {
    private static final int RUNS = 400;
    private static final int CALLS = 512;
    private static final int KINDS = 27;
    /** Which kinds of calls a run has more of than of others: wiring, service, tests, frame, all. */
    private static final int[][] FAVOURED = {
        {0, 1, 2, 3, 4, 5, 6, 7, 8, 8, 9, 9, 11, 18},
        {10, 11, 11, 11, 11, 12, 12, 12, 12, 13, 14, 15, 15, 16, 16, 17, 18, 19, 19, 20, 26},
        {21, 21, 21, 21, 22, 23, 23, 23, 24, 24, 2, 3},
        {25, 25, 25, 25, 25, 25, 26, 26, 27},
        {},
    };
    private static final Due due = new Due();

    private final Random random;
    private final BellPulls x = new BellPulls();
    private final PlainModel model = new PlainModel();
    private String call;
    private int got;
    private int want;

    private RandomRunsTest(long seed) {
        random = new Random(seed);
    }

    public static void main(String[] args) {
        for (int run = 0; run < RUNS && due.isClean(); run++) {
            new RandomRunsTest(run).go(run);
        }
        due.end();
    }

    private void go(int run) {
        int[] favoured = FAVOURED[run % FAVOURED.length];
        boolean furnished = run % 3 != 0;
        for (int n = 0; n < CALLS && due.isClean(); n++) {
            int kind = favoured.length > 0 && random.nextInt(10) < 8
                    ? favoured[random.nextInt(favoured.length)]
                    : random.nextInt(KINDS + 1);
            if (furnished && n < 16) {
                kind = n < 9 ? 3 : n < 13 ? 10 : 4;
            }
            make(kind);
            due.is("run " + run + " call " + n + ": " + call, got, want);
        }
    }

    /** A number from low to high, at times one beside them or far off. */
    private int pick(int low, int high) {
        int luck = random.nextInt(60);
        if (luck == 0) {
            return low - 1 - random.nextInt(2);
        }
        if (luck == 1) {
            return high + 1 + random.nextInt(2);
        }
        if (luck == 2) {
            return random.nextInt();
        }
        return high < low ? low : low + random.nextInt(high - low + 1);
    }

    private int somePull() {
        return pick(0, model.count(0) - 1);
    }

    private int someBits(int most, int high) {
        int bits = 0;
        int many = 1 + random.nextInt(most);
        for (int i = 0; i < many; i++) {
            bits |= 1 << random.nextInt(high);
        }
        return random.nextInt(60) == 0 ? pick(0, (1 << high) - 1) : bits;
    }

    private void say(String name, int... numbers) {
        StringBuilder text = new StringBuilder(name).append('(');
        for (int i = 0; i < numbers.length; i++) {
            text.append(i == 0 ? "" : ", ").append(numbers[i]);
        }
        call = text.append(')').toString();
    }

    private void answers(int answer, int due) {
        got = answer;
        want = due;
    }

    private void make(int kind) {
        if (kind < 10) {
            makeWiring(kind);
        } else if (kind < 21) {
            makeService(kind);
        } else {
            makeRest(kind);
        }
    }

    private void makeWiring(int kind) {
        int a, b, c;
        switch (kind) {
            case 0:
                a = pick(0, 15);
                b = random.nextInt(3) == 0 ? pick(0, 10) : pick(0, 3);
                say("crank", a, b);
                answers(x.crank(a, b), model.crank(a, b));
                break;
            case 1:
                a = pick(0, 7);
                b = pick(0, 1);
                c = b == 0 ? pick(0, 5) : random.nextInt(3) == 0 ? pick(0, 1) : 0;
                say("bell", a, b, c);
                answers(x.bell(a, b, c), model.bell(a, b, c));
                break;
            case 2:
                a = random.nextInt(2) == 0 ? pick(0, 40) : pick(0, 15);
                say("heat", a);
                answers(x.heat(a), model.heat(a));
                break;
            case 3:
                makePull();
                break;
            case 4:
                a = pick(0, 15);
                b = pick(0, 15);
                say("cross", a, b);
                answers(x.cross(a, b), model.cross(a, b));
                break;
            case 5:
                if (random.nextInt(3) != 0) {
                    makeWiring(4);
                    break;
                }
                say("uncross");
                answers(x.uncross(), model.uncross());
                break;
            case 6:
                a = somePull();
                say("force", a);
                answers(x.force(a), model.force(a));
                break;
            case 7:
            case 8:
                a = somePull();
                b = pick(0, 7);
                say("would", a, b);
                answers(x.would(a, b), model.would(a, b));
                break;
            default:
                a = pick(-1, 5);
                b = pick(0, 2);
                c = random.nextInt(2) == 0 ? -1 : pick(-1, 255);
                say("means", a, b, c);
                answers(x.means(a, b, c), model.means(a, b, c));
                break;
        }
    }

    private void makePull() {
        int floor = pick(0, 3);
        int place = random.nextInt(2) == 0 ? pick(0, 30) : pick(8, 12);
        int rank = pick(0, 4);
        int bell = pick(0, 7);
        int cranks = someBits(6, 16);
        say("pull", floor, place, rank, bell, cranks);
        answers(x.pull(floor, place, rank, bell, cranks),
                model.pull(floor, place, rank, bell, cranks));
    }

    private void makeService(int kind) {
        int a, b, c;
        switch (kind) {
            case 10:
                a = pick(0, 3);
                b = pick(0, 30);
                c = random.nextInt(2) == 0 ? 31 : pick(0, 31);
                say("servant", a, b, c);
                answers(x.servant(a, b, c), model.servant(a, b, c));
                break;
            case 11:
                a = somePull();
                say("ring", a);
                answers(x.ring(a), model.ring(a));
                break;
            case 12:
                a = random.nextInt(12) == 0 ? pick(1, 200) : pick(1, 6);
                say("ticks", a);
                answers(x.ticks(a), model.ticks(a));
                break;
            case 13:
                a = somePull();
                say("takeBack", a);
                answers(x.takeBack(a), model.takeBack(a));
                break;
            case 14:
                a = pick(0, (1 << model.count(0)) - 1);
                say("flags", a);
                answers(x.flags(a), model.flags(a));
                break;
            case 15:
                a = somePull();
                b = pick(0, 4);
                say("about", a, b);
                answers(x.about(a, b), model.about(a, b));
                break;
            case 16:
                a = pick(0, model.count(1) - 1);
                b = pick(0, 4);
                say("servantTold", a, b);
                answers(x.servantTold(a, b), model.servantTold(a, b));
                break;
            case 17:
                a = pick(0, model.count(1) - 1);
                b = somePull();
                say("way", a, b);
                answers(x.way(a, b), model.way(a, b));
                break;
            case 18:
                a = pick(-1, 7);
                say("swings", a);
                answers(x.swings(a), model.swings(a));
                break;
            case 19:
                a = pick(-1, model.count(0) - 1);
                say("share", a);
                answers(x.share(a), model.share(a));
                break;
            default:
                say("send");
                answers(x.send(), model.send());
                break;
        }
    }

    private void makeRest(int kind) {
        int a, b, c;
        switch (kind) {
            case 21:
                a = somePull();
                b = pick(0, 40);
                c = pick(-1, 2);
                say("test", a, b, c);
                answers(x.test(a, b, c), model.test(a, b, c));
                break;
            case 22:
                say("noTests");
                answers(x.noTests(), model.noTests());
                break;
            case 23:
                a = pick(-1, model.fault(-1));
                say("fault", a);
                answers(x.fault(a), model.fault(a));
                break;
            case 24:
                say("nextTest");
                answers(x.nextTest(), model.nextTest());
                break;
            case 25:
                a = pick(0, 23);
                b = random.nextInt(20) == 0 ? pick(0, 23) : a + new int[] {-6, -1, 1, 6}[random.nextInt(4)];
                c = pick(0, 2);
                say("frame", a, b, c);
                answers(x.frame(a, b, c), model.frame(a, b, c));
                break;
            case 26:
                a = someBits(random.nextInt(10) == 0 ? 6 : 5, 24);
                say("wires", a);
                answers(x.wires(a), model.wires(a));
                break;
            default:
                a = pick(0, 8);
                say("count", a);
                answers(x.count(a), model.count(a));
                break;
        }
    }
}
