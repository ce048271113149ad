/** A sky that is full, of 48 relays and 8 posts, and at last of 60 letters: the same answers as PlainRelay's. */
public final class FullEdgesTest {
    private static final int PLANES = 6;
    private static final int RELAYS = 48;
    private static final int POSTS = 8;
    private static final int[][] SPEEDS = {{0, 0, 0, 0, 0, 0}, {1, 2, 1, 0, -1, 0}, {-1, -2, -3, -3, -2, -1}};

    private final Edges edges;
    private final int[] speeds;
    private MoonRelay x;
    private PlainRelay y;

    private FullEdgesTest(Edges edges, int[] speeds) {
        this.edges = edges;
        this.speeds = speeds;
    }

    public static void main(String[] args) throws Exception {
        Edges edges = new Edges();
        for (int[] speeds : SPEEDS) {
            FullEdgesTest test = new FullEdgesTest(edges, speeds);
            edges.says("RELAYS are numbered through all PLANES, in order (at most 48).");
            test.links();
            edges.says("POSTS (at most 8, numbered from 0 on)");
            test.sights();
            test.ways();
            test.parts();
            edges.says("LETTERS (at most 60, numbered from 0 on)");
            test.letters();
        }
        edges.finish("FullEdgesTest");
    }

    /** Each part asks a new object, so that none is asked more than 512 times. */
    private void renew() {
        x = new MoonRelay();
        y = new PlainRelay();
        for (int plane = 0; plane < PLANES; plane++) {
            x.plane(8, 5 * plane, speeds[plane]);
            y.plane(8, 5 * plane, speeds[plane]);
        }
        for (int post = 0; post < POSTS; post++) {
            int place = 7 * post % 32;
            int plane = post % 2 == 0 ? post / 2 % 2 : 5 - post / 2 % 2;
            int sight = (post + 2) % 5;
            x.post(place, plane, sight);
            y.post(place, plane, sight);
        }
        x.dead(21, true);
        y.dead(21, true);
    }

    private void ask(String call, Check.Call mine, Check.Call plain) {
        edges.due("speeds from " + speeds[0] + " to " + speeds[1] + ", " + call, Check.answerOf(plain), mine);
    }

    private void links() {
        for (int relay = 0; relay < RELAYS; relay++) {
            int r = relay;
            renew();
            for (int other = 0; other <= RELAYS; other++) {
                for (int tick = 0; tick < 32; tick += 9) {
                    int o = other;
                    int t = tick;
                    ask("link(" + r + ", " + o + ", " + t + ")", () -> x.link(r, o, t), () -> y.link(r, o, t));
                }
            }
        }
        renew();
        for (int step = 0; step < 33; step++) {
            ask("count(8) after " + step, () -> x.count(8), () -> y.count(8));
            x.steps(1);
            y.steps(1);
        }
    }

    private void sights() {
        for (int post = 0; post < POSTS; post++) {
            int p = post;
            renew();
            for (int relay = 0; relay <= RELAYS; relay++) {
                for (int tick = 0; tick < 32; tick += 7) {
                    int r = relay;
                    int t = tick;
                    ask("sees(" + p + ", " + r + ", " + t + ")", () -> x.sees(p, r, t), () -> y.sees(p, r, t));
                }
            }
            ask("meets(" + p + ")", () -> x.meets(p), () -> y.meets(p));
        }
    }

    private void ways() {
        for (int from = 0; from < POSTS; from++) {
            renew();
            for (int to = 0; to < POSTS; to++) {
                int f = from;
                int t = to;
                for (int tick = 0; tick < 32; tick += 5) {
                    int at = tick;
                    ask("earliest(" + f + ", " + t + ", " + at + ")",
                            () -> x.earliest(f, t, at), () -> y.earliest(f, t, at));
                }
            }
        }
        renew();
        ask("late(0, 7, true)", () -> x.late(0, 7, true), () -> y.late(0, 7, true));
        ask("late(7, 0, false)", () -> x.late(7, 0, false), () -> y.late(7, 0, false));
    }

    private void parts() {
        for (int from = 0; from < POSTS; from++) {
            renew();
            for (int to = 0; to < POSTS; to++) {
                for (int tick = 0; tick < 32; tick++) {
                    int f = from;
                    int t = to;
                    int at = tick;
                    if (f < t || tick == 31) {
                        ask("part(" + f + ", " + t + ", " + at + ")", () -> x.part(f, t, at), () -> y.part(f, t, at));
                    }
                }
            }
        }
    }

    private void letters() {
        renew();
        for (int letter = 0; letter < 60; letter++) {
            int from = letter % POSTS;
            int to = (from + 1 + letter % 7) % POSTS;
            ask("send(" + from + ", " + to + ")", () -> x.send(from, to), () -> y.send(from, to));
            if (letter % 20 == 19) {
                ask("steps(3)", () -> x.steps(3), () -> y.steps(3));
                int relay = 47 - letter / 20;
                ask("dead(" + relay + ", true)", () -> x.dead(relay, true), () -> y.dead(relay, true));
            }
        }
        ask("steps(20)", () -> x.steps(20), () -> y.steps(20));
        for (int letter = 0; letter <= 60; letter++) {
            for (int what = 0; what < 6; what++) {
                int l = letter;
                int w = what;
                ask("look(" + l + ", " + w + ")", () -> x.look(l, w), () -> y.look(l, w));
            }
        }
        for (int what = 0; what <= 8; what++) {
            int w = what;
            ask("count(" + w + ")", () -> x.count(w), () -> y.count(w));
        }
    }
}
