/** To part two posts, in many skies: the same answers as PlainRelay's. */
public final class PartTest {
    private static final Check CHECK = new Check();
    // Skies in which a way that was found has to be changed by more than one relay for the next one.
    private static final int[] HARD = {2102, 2271, 2447, 3853, 3914, 4020, 4215, 5732};

    private long seed;

    private PartTest(int run) {
        seed = run * 7919L + 3;
    }

    public static void main(String[] args) {
        for (int run : HARD) {
            new PartTest(run).play(run);
        }
        for (int run = 0; run < 1000; run++) {
            new PartTest(run).play(run);
        }
        CHECK.finish("PartTest");
    }

    private int any(int below) {
        seed = seed * 6364136223846793005L + 1442695040888963407L;
        return (int) Math.floorMod(seed >>> 33, (long) below);
    }

    private void play(int run) {
        MoonRelay x = new MoonRelay();
        PlainRelay y = new PlainRelay();
        build(x, y);
        for (int i = 0; i < 8; i++) {
            int tick = any(32);
            CHECK.due("run " + run + ": part at " + tick, y.part(0, 1, tick), () -> x.part(0, 1, tick));
            CHECK.due("run " + run + ": back at " + tick, y.part(0, 1, tick), () -> x.part(1, 0, tick));
        }
    }

    private void build(MoonRelay x, PlainRelay y) {
        int planes = 2 + any(5);
        int style = any(3);
        for (int i = 0; i < planes; i++) {
            int relays = style == 0 ? 8 : 3 + any(6);
            int phase = style == 2 ? any(32) / 2 * 2 : any(32);
            int speed = any(7) - 3;
            x.plane(relays, phase, speed);
            y.plane(relays, phase, speed);
        }
        for (int i = 0; i < 2; i++) {
            int place = any(32);
            int plane = any(planes);
            int sight = 2 + any(7);
            x.post(place, plane, sight);
            y.post(place, plane, sight);
        }
        int deaths = any(3) == 0 ? 0 : any(16);
        for (int i = 0; i < deaths; i++) {
            int relay = any(y.count(2));
            x.dead(relay, true);
            y.dead(relay, true);
        }
    }
}
