/** To part two posts, in many skies: the same answers as PlainRelay's. */
public final class PartTest {
    private static final Check CHECK = new Check();
    // Skies in which a way that was found has to be changed by more than one relay for the next one.
    private static final int[] HARD = {2102, 2271, 2447, 3853, 3914, 4020, 4215, 5732};

    // Skies in which a relay that one way was made to leave is needed again by a later way: the planes, the two
    // posts, the dead relays, and the tick with the answer that is due.
    private static final int[][][] LEFT_AND_NEEDED = {
        {{6, 12, 0}, {8, 13, 3}, {8, 4, 3}, {5, 27, -2}, {5, 25, 3}, {5, 6, 3}},
        {{16, 2, 3}, {25, 4, 3}}, {{1}}, {{23, 3}},
        {{7, 23, 2}, {8, 7, 1}, {8, 15, 3}, {4, 15, 1}, {6, 29, 3}, {5, 7, -2}},
        {{10, 3, 3}, {24, 0, 5}}, {{}}, {{30, 5}},
        {{8, 4, 0}, {8, 29, -3}, {6, 12, -3}, {5, 29, 2}},
        {{31, 1, 6}, {15, 2, 5}}, {{}}, {{8, 5}},
        {{5, 30, 0}, {8, 15, 1}, {6, 6, 2}, {5, 19, 3}, {6, 18, 0}},
        {{28, 3, 3}, {16, 1, 3}}, {{}}, {{20, 5}},
        {{6, 2, -2}, {7, 13, -2}, {8, 11, -3}, {7, 9, -2}, {7, 15, -1}, {5, 5, 1}},
        {{24, 2, 5}, {8, 4, 4}}, {{19, 15, 20, 36, 6, 16, 29}}, {{6, 4}},
    };

    private long seed;

    private PartTest(int run) {
        seed = run * 7919L + 3;
    }

    public static void main(String[] args) {
        for (int run : HARD) {
            new PartTest(run).play(run);
        }
        for (int run = 0; run < 1000; run++) {
            new PartTest(run).play(run);
        }
        for (int i = 0; i < LEFT_AND_NEEDED.length; i += 4) {
            leftAndNeeded(i);
        }
        CHECK.finish("PartTest");
    }

    private static void leftAndNeeded(int i) {
        MoonRelay x = new MoonRelay();
        PlainRelay y = new PlainRelay();
        for (int[] plane : LEFT_AND_NEEDED[i]) {
            x.plane(plane[0], plane[1], plane[2]);
            y.plane(plane[0], plane[1], plane[2]);
        }
        for (int[] post : LEFT_AND_NEEDED[i + 1]) {
            x.post(post[0], post[1], post[2]);
            y.post(post[0], post[1], post[2]);
        }
        for (int relay : LEFT_AND_NEEDED[i + 2][0]) {
            x.dead(relay, true);
            y.dead(relay, true);
        }
        int tick = LEFT_AND_NEEDED[i + 3][0][0];
        int due = LEFT_AND_NEEDED[i + 3][0][1];
        CHECK.due("left and needed, sky " + i / 4, due, () -> x.part(0, 1, tick));
        CHECK.due("left and needed, back, sky " + i / 4, due, () -> x.part(1, 0, tick));
        CHECK.due("left and needed, plainly, sky " + i / 4, due, () -> y.part(0, 1, tick));
    }

    private int any(int below) {
        seed = seed * 6364136223846793005L + 1442695040888963407L;
        return (int) Math.floorMod(seed >>> 33, (long) below);
    }

    private void play(int run) {
        MoonRelay x = new MoonRelay();
        PlainRelay y = new PlainRelay();
        build(x, y);
        for (int i = 0; i < 8; i++) {
            int tick = any(32);
            CHECK.due("run " + run + ": part at " + tick, y.part(0, 1, tick), () -> x.part(0, 1, tick));
            CHECK.due("run " + run + ": back at " + tick, y.part(0, 1, tick), () -> x.part(1, 0, tick));
        }
    }

    private void build(MoonRelay x, PlainRelay y) {
        int planes = 2 + any(5);
        int style = any(3);
        for (int i = 0; i < planes; i++) {
            int relays = style == 0 ? 8 : 3 + any(6);
            int phase = style == 2 ? any(32) / 2 * 2 : any(32);
            int speed = any(7) - 3;
            x.plane(relays, phase, speed);
            y.plane(relays, phase, speed);
        }
        for (int i = 0; i < 2; i++) {
            int place = any(32);
            int plane = any(planes);
            int sight = 2 + any(7);
            x.post(place, plane, sight);
            y.post(place, plane, sight);
        }
        int deaths = any(3) == 0 ? 0 : any(16);
        for (int i = 0; i < deaths; i++) {
            int relay = any(y.count(2));
            x.dead(relay, true);
            y.dead(relay, true);
        }
    }
}
