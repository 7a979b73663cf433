import java.util.ArrayList;
import java.util.List;

/** Houses in which calls are refused: nothing there yet, at work, one call too many, full. */
enum House {
    NEW,

    /**
     * 6 pulls, 3 servants, 2 pairs, 4 tests, some of all there is in the frame; pull 1 is on its
     * errand, 0 and 3 wait, with a servant who may go to 3; 4 was taken back; 2 has a mute bell.
     */
    AT_WORK(
            "pull 0 3 2 0 3", "pull 1 20 4 1 12", "pull 2 15 0 2 16", "pull 3 0 1 0 96",
            "pull 0 30 3 5 33024", "pull 2 7 0 7 31",
            "crank 5 3", "crank 9 10", "crank 6 1", "bell 0 0 1", "bell 1 0 5", "bell 7 0 1",
            "bell 2 1 1", "heat 13", "cross 0 2", "cross 15 3",
            "servant 0 0 16", "servant 3 30 1", "servant 1 9 2",
            "ring 1", "ring 0", "ticks 2", "ring 4", "ticks 3", "takeBack 4", "ring 3", "flags 1",
            "test 0 0 1", "test 1 40 -1", "test 3 20 2", "test 5 4 1",
            "frame 0 1 2", "frame 1 2 2", "frame 2 8 1", "frame 8 9 2", "frame 17 23 1",
            "frame 22 23 1", "frame 6 12 2"),

    /** 7 pulls, of which 5 wait, one more than may be shared out; 3 servants are free to go. */
    AWAITED(
            "pull 0 3 2 0 1", "pull 1 20 4 1 2", "pull 2 15 0 2 4", "pull 3 0 1 3 8",
            "pull 0 30 3 4 16", "pull 2 7 0 5 32", "pull 2 8 0 6 64",
            "servant 0 0 31", "ring 6", "ticks 60", "servant 3 30 31", "servant 1 9 31",
            "ring 0", "ring 1", "ring 2", "ring 3", "ring 4"),

    /** 12 pulls, 5 servants, 4 pairs, 12 tests, 4,900 ticks; 5 pulls on errands and 7 that wait. */
    FULL(
            "pull 0 0 0 0 1", "pull 1 3 1 1 2", "pull 2 6 2 2 4", "pull 3 9 3 3 8",
            "pull 0 12 4 4 16", "pull 1 15 0 5 32", "pull 2 18 1 6 64", "pull 3 21 2 7 128",
            "pull 0 24 3 0 256", "pull 1 27 4 1 512", "pull 2 30 0 2 1024", "pull 3 30 1 3 63488",
            "servant 0 0 31", "servant 1 8 31", "servant 2 15 31", "servant 3 22 31",
            "servant 3 30 31", "crank 3 2", "crank 15 4", "bell 3 0 3", "heat 7",
            "cross 0 1", "cross 1 2", "cross 14 7", "cross 8 12", "ticks 1"),
    ;

    private final List<Call> script = new ArrayList<>();

    House(String... texts) {
        for (String text : texts) {
            script.add(new Call(text));
        }
        if (name().equals("FULL")) {
            fillUp();
        }
    }

    private void fillUp() {
        for (int i = 1; i < 25; i++) {
            script.add(new Call("ticks 200"));
        }
        script.add(new Call("ticks 98"));
        for (int pull = 0; pull < 12; pull++) {
            script.add(new Call("ring " + pull));
        }
        script.add(new Call("ticks 1"));
        String[] outcomes = {" 2", " -1", " 2"};
        for (int i = 0; i < 12; i++) {
            script.add(new Call("test " + i + " " + i + outcomes[i % 3]));
        }
        for (int point = 0; point < 23; point++) {
            if (point % 6 != 5) {
                script.add(new Call("frame " + point + " " + (point + 1) + " 2"));
            }
        }
    }

    /** As many calls as this are spent of the object's 512. */
    int calls() {
        return script.size();
    }

    BellPulls furnished() {
        BellPulls house = new BellPulls();
        for (Call call : script) {
            call.on(house);
        }
        return house;
    }

    /** The same house, of the plain model; each call's answer is held against the class's. */
    PlainModel modelled(Due due) {
        BellPulls house = new BellPulls();
        PlainModel model = new PlainModel();
        for (Call call : script) {
            due.is(name() + ": " + call.text, call.on(house), call.on(model));
        }
        return model;
    }
}
