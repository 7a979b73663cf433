import java.util.Random;

/**
 * All promises: every call with every mixture of the numbers at and beside its edges, in each of
 * the houses, held against the plain model; then calls far beyond the 512th, of which only this is
 * asked, that none throws and all end.
 */
public final class EdgeSweepTest {
    private static final int MIN = Integer.MIN_VALUE, MAX = Integer.MAX_VALUE;
    /** Each call with the greatest number told for each of its arguments. */
    private static final String[] FACE = {
        "crank 15 10", "bell 7 1 5", "heat 40", "pull 3 30 4 7 65535", "cross 15 15", "uncross",
        "force 11", "would 11 7", "means 5 2 255", "servant 3 30 31", "ring 11", "ticks 200",
        "takeBack 11", "flags 4095", "about 11 4", "servantTold 4 4", "way 4 11", "swings 7",
        "share 11", "send", "test 11 40 2", "noTests", "fault 167", "nextTest", "frame 23 23 2",
        "wires 16777215", "count 8",
    };
    private static final Due due = new Due();

    private static final int MOST_CALLS = 512;

    private final House house;
    private BellPulls x;
    private PlainModel model;
    private int calls;

    private EdgeSweepTest(House house) {
        this.house = house;
        furnish();
    }

    public static void main(String[] args) {
        for (House house : House.values()) {
            EdgeSweepTest sweep = new EdgeSweepTest(house);
            for (String line : FACE) {
                sweep.over(line.split(" "));
            }
        }
        beyondThe512th();
        due.end();
    }

    private void furnish() {
        x = house.furnished();
        model = house.modelled(due);
        calls = house.calls();
    }

    private void over(String[] words) {
        int many = words.length - 1;
        int[][] edges = new int[many][];
        int mixtures = 1;
        for (int i = 0; i < many; i++) {
            edges[i] = edgesOf(Integer.parseInt(words[i + 1]), many);
            mixtures *= edges[i].length;
        }
        for (int n = 0; n < mixtures; n++) {
            StringBuilder text = new StringBuilder(words[0]);
            int rest = n;
            for (int[] some : edges) {
                text.append(' ').append(some[rest % some.length]);
                rest /= some.length;
            }
            make(new Call(text.toString()));
        }
    }

    /** The more arguments a call has, the fewer edges of each, or the mixtures are too many. */
    private static int[] edgesOf(int last, int arguments) {
        if (arguments == 1) {
            return new int[] {MIN, MIN + 1, -3, -2, -1, 0, 1, 2, 4, 5, 6, 31, last - 1, last,
                last + 1, last + 2, MAX - 1, MAX};
        }
        if (arguments == 2) {
            return new int[] {MIN, -2, -1, 0, 1, 5, last - 1, last, last + 1, MAX};
        }
        if (arguments == 3) {
            return new int[] {MIN, -2, -1, 0, 1, last, last + 1, MAX};
        }
        return new int[] {-1, 0, last / 4, last + 1};
    }

    /** What is refused changes nothing, so the house may be used on; else there is a new one. */
    private void make(Call call) {
        int got = call.on(x);
        int want = call.on(model);
        due.is(house + " house: " + call.text, got, want);
        calls++;
        boolean isRefused = want == BellPulls.BAD || want == BellPulls.NO || want == BellPulls.FULL;
        if (!isRefused || calls >= MOST_CALLS) {
            furnish();
        }
    }

    private static void beyondThe512th() {
        Random random = new Random(512);
        for (int run = 0; run < 20; run++) {
            BellPulls x = House.values()[run % House.values().length].furnished();
            for (int n = 0; n < 20000; n++) {
                String[] words = FACE[random.nextInt(FACE.length)].split(" ");
                StringBuilder text = new StringBuilder(words[0]);
                for (int i = 1; i < words.length; i++) {
                    int last = Integer.parseInt(words[i]);
                    boolean wild = random.nextInt(40) == 0;
                    text.append(' ').append(wild ? random.nextInt() : random.nextInt(last + 1));
                }
                new Call(text.toString()).on(x);
            }
            due.that("no call threw", true);
        }
    }
}
