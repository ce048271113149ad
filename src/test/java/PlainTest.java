/** Long runs of calls, the same on MoonRelay and on PlainRelay, by numbers that are the same each time. */
public final class PlainTest {
    private static final Check CHECK = new Check();

    private long seed;
    private final MoonRelay x = new MoonRelay();
    private final PlainRelay y = new PlainRelay();
    private final int run;
    // Dense skies have many ways to part; busy ones many letters of the same two posts.
    private final boolean dense;
    private final boolean busy;
    private int planes;
    private int relays;
    private int posts;
    private int letters;

    private PlainTest(int run) {
        this.run = run;
        this.seed = run * 7919L + 17;
        this.dense = run % 4 == 1;
        this.busy = run % 4 >= 2;
    }

    public static void main(String[] args) {
        int runs = args.length > 0 ? Integer.parseInt(args[0]) : 120;
        int first = args.length > 1 ? Integer.parseInt(args[1]) : 0;
        for (int run = first; run < first + runs; run++) {
            new PlainTest(run).play();
        }
        CHECK.finish("PlainTest");
    }

    private int any(int below) {
        seed = seed * 6364136223846793005L + 1442695040888963407L;
        return (int) Math.floorMod(seed >>> 33, (long) below);
    }

    /** Mostly a number that is there, now and then one just beside. */
    private int near(int size) {
        return any(25) == 0 ? any(3) == 0 ? -1 : size : any(Math.max(size, 1));
    }

    private int tick() {
        switch (any(12)) {
            case 0: return 100000000 - any(40);
            case 1: return any(5) == 0 ? -1 : 100000000 + any(2);
            default: return any(100);
        }
    }

    private void ask(String call, Check.Call mine, Check.Call plain) {
        Object want = Check.answerOf(plain);
        String told = "run " + run + ": " + call;
        CHECK.due(told, want, mine);
    }

    private void play() {
        build();
        int calls = 60 + any(120);
        for (int i = 0; i < calls; i++) {
            call();
            if (any(6) == 0) {
                lookAtAll();
            }
        }
        lookAtAll();
    }

    private void build() {
        int wantedPlanes = dense ? 2 + any(5) : 1 + any(6);
        boolean few = !dense && any(2) == 0;
        boolean slow = any(3) == 0;
        for (int i = 0; i < wantedPlanes; i++) {
            if (any(3) == 0) {
                addPost();
            }
            addPlane(few ? 1 + any(3) : dense ? 5 + any(4) : 1 + any(8), any(32), slow ? 0 : any(7) - 3);
        }
        int wantedPosts = 2 + any(7);
        for (int i = 0; i < wantedPosts; i++) {
            addPost();
        }
    }

    private void addPlane(int number, int phase, int speed) {
        ask("plane(" + number + ", " + phase + ", " + speed + ")",
                () -> x.plane(number, phase, speed), () -> y.plane(number, phase, speed));
        planes = y.count(1);
        relays = y.count(2);
    }

    private void addPost() {
        int place = any(32);
        int plane = any(4) == 0 ? any(6) : any(planes + 1);
        int sight = dense || busy ? 3 + any(6) : any(9);
        ask("post(" + place + ", " + plane + ", " + sight + ")",
                () -> x.post(place, plane, sight), () -> y.post(place, plane, sight));
        posts = y.count(4);
    }

    private void call() {
        int tick = tick();
        int relay = near(relays);
        int other = any(3) == 0 ? relay + any(3) - 1 : near(relays);
        int post = near(posts);
        int end = near(posts);
        boolean usual = busy && any(4) != 0;
        int sender = usual ? run % 2 : post;
        int taker = usual ? 1 - run % 2 : end;
        switch (any(18)) {
            case 0:
                ask("over(" + relay + ", " + tick + ")", () -> x.over(relay, tick), () -> y.over(relay, tick));
                break;
            case 1:
            case 2:
                boolean is = dense || busy ? any(5) < 2 : any(3) != 0;
                ask("dead(" + relay + ", " + is + ")", () -> x.dead(relay, is), () -> y.dead(relay, is));
                break;
            case 3:
                ask("link(" + relay + ", " + other + ", " + tick + ")",
                        () -> x.link(relay, other, tick), () -> y.link(relay, other, tick));
                break;
            case 4:
                ask("sees(" + post + ", " + relay + ", " + tick + ")",
                        () -> x.sees(post, relay, tick), () -> y.sees(post, relay, tick));
                break;
            case 5:
            case 6:
                ask("earliest(" + post + ", " + end + ", " + tick + ")",
                        () -> x.earliest(post, end, tick), () -> y.earliest(post, end, tick));
                break;
            case 7:
                boolean most = any(2) == 0;
                if (any(4) == 0) {
                    ask("late(" + post + ", " + end + ", " + most + ")",
                            () -> x.late(post, end, most), () -> y.late(post, end, most));
                }
                break;
            case 8:
                ask("meets(" + post + ")", () -> x.meets(post), () -> y.meets(post));
                break;
            case 9:
            case 10:
                ask("part(" + post + ", " + end + ", " + tick + ")",
                        () -> x.part(post, end, tick), () -> y.part(post, end, tick));
                break;
            case 11:
                wrongOrRare();
                break;
            case 12:
            case 13:
            case 14:
                ask("send(" + sender + ", " + taker + ")", () -> x.send(sender, taker), () -> y.send(sender, taker));
                letters = y.count(5);
                break;
            default:
                int n = any(30) == 0 ? any(2) == 0 ? -1 : 101 : any(4);
                ask("steps(" + n + ")", () -> x.steps(n), () -> y.steps(n));
        }
    }

    private void wrongOrRare() {
        int a = any(12) - 2;
        int b = any(36) - 2;
        int c = any(12) - 4;
        if (any(2) == 0 || letters == 0 && any(3) != 0) {
            ask("plane(0)", () -> x.plane(letters == 0 ? 0 : a, b, c), () -> y.plane(letters == 0 ? 0 : a, b, c));
        } else {
            ask("post(" + b + ", " + a + ", " + c + ")", () -> x.post(b, a, c), () -> y.post(b, a, c));
        }
        posts = y.count(4);
        int letter = near(letters);
        int what = any(9) - 1;
        ask("look(" + letter + ", " + what + ")", () -> x.look(letter, what), () -> y.look(letter, what));
    }

    private void lookAtAll() {
        for (int letter = 0; letter < letters; letter++) {
            for (int what = 0; what < 6; what++) {
                int l = letter;
                int w = what;
                ask("look(" + l + ", " + w + ")", () -> x.look(l, w), () -> y.look(l, w));
            }
        }
        for (int what = -1; what <= 9; what++) {
            int w = what;
            ask("count(" + w + ")", () -> x.count(w), () -> y.count(w));
        }
    }
}
