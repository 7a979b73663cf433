import java.util.ArrayList;
import java.util.EnumMap;
import java.util.List;
import java.util.Map;

/**
 * "Nothing changes then": behind a refused call a house answers all that can be asked just as
 * one does in which that call was never made. What is asked changes things itself, and an object
 * has 512 calls, so each view of the house is asked of a house of its own.
 */
final class Refusals {
    private static final int MOST_CALLS = 512;
    private static final List<List<Call>> VIEWS = new ArrayList<>();

    static {
        VIEWS.add(whatRings());
        VIEWS.add(whatIsCrossed());
        VIEWS.add(whoWaits());
        VIEWS.add(whoGoesNext());
        VIEWS.add(whatIsTold());
        VIEWS.add(whatExplains());
        VIEWS.add(whatIsInTheFrame());
        VIEWS.add(howMuchRoomThereIs());
    }

    private final Due due;
    private final Map<House, int[][]> untouched = new EnumMap<>(House.class);

    Refusals(Due due) {
        this.due = due;
        for (House house : House.values()) {
            int[][] answers = new int[VIEWS.size()][];
            for (int i = 0; i < answers.length; i++) {
                List<Call> view = VIEWS.get(i);
                due.that("the calls suffice", house.calls() + view.size() < MOST_CALLS);
                answers[i] = ask(view, house.furnished());
            }
            untouched.put(house, answers);
        }
    }

    /** Each of the calls is refused so in every house. */
    void everywhere(int want, String... calls) {
        for (House house : House.values()) {
            in(house, want, calls);
        }
    }

    /** The call is refused so in every house with each of the numbers in the place of '?'. */
    void with(int want, String call, int... numbers) {
        for (int number : numbers) {
            everywhere(want, call.replace("?", Integer.toString(number)));
        }
    }

    void in(House house, int want, String... calls) {
        for (String text : calls) {
            refuse(house, new Call(text), want);
        }
    }

    private void refuse(House house, Call call, int want) {
        int[][] left = untouched.get(house);
        String what = house + " house: " + call.text;
        for (int i = 0; i < left.length; i++) {
            BellPulls touched = house.furnished();
            due.is(what, call.on(touched), want);
            List<Call> view = VIEWS.get(i);
            int[] answers = ask(view, touched);
            for (int n = 0; n < answers.length; n++) {
                if (answers[n] != left[i][n]) {
                    due.is(what + ", then " + view.get(n).text, answers[n], left[i][n]);
                    break;
                }
            }
        }
    }

    private static int[] ask(List<Call> view, BellPulls house) {
        int[] answers = new int[view.size()];
        for (int i = 0; i < answers.length; i++) {
            answers[i] = view.get(i).on(house);
        }
        return answers;
    }

    private static List<Call> whatRings() {
        List<Call> asked = new ArrayList<>();
        for (int pull = 0; pull < 12; pull++) {
            asked.add(new Call("force " + pull));
            for (int bell = 0; bell < 8; bell++) {
                asked.add(new Call("would " + pull + " " + bell));
            }
        }
        for (int tone = -1; tone < 6; tone++) {
            for (int loud = 0; loud < 3; loud++) {
                asked.add(new Call("means " + tone + " " + loud + " -1"));
            }
        }
        for (int crank = 0; crank < 16; crank++) {
            asked.add(new Call("crank " + crank + " 0"));
        }
        for (int bell = 0; bell < 8; bell++) {
            asked.add(new Call("bell " + bell + " 0 0"));
            asked.add(new Call("bell " + bell + " 1 0"));
        }
        asked.add(new Call("heat 0"));
        return asked;
    }

    private static List<Call> whatIsCrossed() {
        List<Call> asked = new ArrayList<>();
        for (int a = 0; a < 16; a++) {
            for (int b = 0; b < a; b++) {
                asked.add(new Call("cross " + a + " " + b));
            }
        }
        asked.add(new Call("uncross"));
        asked.add(new Call("cross 0 1"));
        return asked;
    }

    private static List<Call> whoWaits() {
        List<Call> asked = new ArrayList<>();
        addCounts(asked);
        addStates(asked);
        for (int bell = -1; bell < 8; bell++) {
            asked.add(new Call("swings " + bell));
        }
        for (int servant = 0; servant < 5; servant++) {
            for (int pull = 0; pull < 12; pull++) {
                asked.add(new Call("way " + servant + " " + pull));
            }
        }
        for (int pull = -1; pull < 12; pull++) {
            asked.add(new Call("share " + pull));
        }
        asked.add(new Call("ticks 1"));
        for (int bell = 0; bell < 8; bell++) {
            asked.add(new Call("swings " + bell));
        }
        return asked;
    }

    private static List<Call> whoGoesNext() {
        List<Call> asked = new ArrayList<>();
        asked.add(new Call("send"));
        addStates(asked);
        asked.add(new Call("ticks 1"));
        addStates(asked);
        asked.add(new Call("ticks 40"));
        addStates(asked);
        return asked;
    }

    private static List<Call> whatIsTold() {
        List<Call> asked = new ArrayList<>();
        for (int pull = 0; pull < 12; pull++) {
            asked.add(new Call("flags " + (1 << pull)));
            asked.add(new Call("takeBack " + pull));
        }
        addCounts(asked);
        for (int pull = 0; pull < 12; pull++) {
            asked.add(new Call("ring " + pull));
        }
        addStates(asked);
        return asked;
    }

    private static List<Call> whatExplains() {
        List<Call> asked = new ArrayList<>();
        for (int i = -1; i < 169; i++) {
            asked.add(new Call("fault " + i));
        }
        asked.add(new Call("nextTest"));
        asked.add(new Call("count 6"));
        asked.add(new Call("noTests"));
        asked.add(new Call("fault -1"));
        asked.add(new Call("nextTest"));
        return asked;
    }

    private static List<Call> whatIsInTheFrame() {
        List<Call> asked = new ArrayList<>();
        asked.add(new Call("count 7"));
        for (int point = 0; point < 24; point++) {
            asked.add(new Call("wires " + (1 | 1 << point)));
        }
        for (int point = 0; point < 24; point++) {
            if (point % 6 != 5) {
                asked.add(new Call("frame " + point + " " + (point + 1) + " 0"));
            }
            if (point < 18) {
                asked.add(new Call("frame " + point + " " + (point + 6) + " 0"));
            }
        }
        return asked;
    }

    private static List<Call> howMuchRoomThereIs() {
        List<Call> asked = new ArrayList<>();
        for (int i = 0; i < 13; i++) {
            asked.add(new Call("pull 0 0 0 0 1"));
            asked.add(new Call("test 0 0 -1"));
        }
        for (int i = 0; i < 6; i++) {
            asked.add(new Call("servant 0 0 1"));
        }
        for (int i = 0; i < 26; i++) {
            asked.add(new Call("ticks 200"));
        }
        for (int i = 0; i < 101; i++) {
            asked.add(new Call("ticks 1"));
        }
        addCounts(asked);
        return asked;
    }

    private static void addCounts(List<Call> asked) {
        for (int what = 0; what < 9; what++) {
            asked.add(new Call("count " + what));
        }
    }

    private static void addStates(List<Call> asked) {
        for (int pull = 0; pull < 12; pull++) {
            for (int what = 0; what < 5; what++) {
                asked.add(new Call("about " + pull + " " + what));
            }
        }
        for (int servant = 0; servant < 5; servant++) {
            for (int what = 0; what < 5; what++) {
                asked.add(new Call("servantTold " + servant + " " + what));
            }
        }
    }
}
