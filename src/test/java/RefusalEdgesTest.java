import java.util.ArrayList;
import java.util.List;

/** Which exception a call throws that has several reasons to throw, and that a call that throws changes nothing. */
public final class RefusalEdgesTest {
    private interface Maker {
        MoonRelay make();
    }

    private interface Asked {
        Object of(MoonRelay x);
    }

    private record Asking(String call, Asked asked) { }

    private static final int[] BAD_TICKS = {Edges.LEAST, -1, Edges.LAST_TICK + 1, Edges.GREATEST};
    private static final int[] ANY_TICKS = {Edges.LEAST, -1, 0, Edges.LAST_TICK, Edges.LAST_TICK + 1, Edges.GREATEST};
    // One that is there, and those around the two that are there.
    private static final int[] OF_TWO = {Edges.LEAST, -1, 0, 1, 2, Edges.GREATEST};

    private final Edges edges;

    private RefusalEdgesTest(Edges edges) {
        this.edges = edges;
    }

    public static void main(String[] args) throws Exception {
        Edges edges = new Edges();
        RefusalEdgesTest test = new RefusalEdgesTest(edges);
        edges.says("Of several exceptions the one told first is thrown; a call that throws changes nothing.");
        test.planeAndPost();
        test.calledByRelay();
        test.calledByPost();
        test.lateMeetsDead();
        test.send();
        test.look();
        edges.says("IllegalStateException: there is a LETTER (PLANES come to no sky with LETTERS, nor POSTS).");
        test.whateverBecameOfTheLetter();
        edges.says("a call that throws changes nothing.");
        test.nothing("an empty sky", MoonRelay::new);
        test.nothing("a sky of one plane", RefusalEdgesTest::twoOfEach);
        test.nothing("a full sky", RefusalEdgesTest::fullSky);
        test.nothing("letters in all states", RefusalEdgesTest::lettersInAllStates);
        test.nothing("a full sky with all letters", RefusalEdgesTest::allLetters);
        edges.finish("RefusalEdgesTest");
    }

    private static MoonRelay twoOfEach() {
        MoonRelay x = Edges.still(1, 2, 0);
        x.post(0, 0, 1);
        x.post(4, 0, 1);
        return x;
    }

    private static MoonRelay fullSky() {
        MoonRelay x = new MoonRelay();
        for (int plane = 0; plane < 6; plane++) {
            x.plane(8, plane, plane - 3);
        }
        for (int post = 0; post < 8; post++) {
            x.post(4 * post, post % 6, post);
        }
        x.dead(5, true);
        return x;
    }

    private static MoonRelay allLetters() {
        MoonRelay x = fullSky();
        for (int letter = 0; letter < 60; letter++) {
            x.send(letter % 8, (letter + 1 + letter % 5) % 8);
        }
        x.steps(9);
        x.dead(10, true);
        x.dead(20, true);
        return x;
    }

    /** The letters 0 to 5: HANDED OUT, LOST, at a relay, at its end, on a link, at its post. */
    private static MoonRelay lettersInAllStates() {
        MoonRelay x = Edges.still(1, 8, 0);
        x.post(0, 0, 4);
        x.post(16, 0, 4);
        x.send(1, 0);
        x.steps(6);
        x.send(0, 1);
        x.steps(1);
        x.dead(1, true);
        x.dead(1, false);
        x.send(0, 1);
        x.steps(1);
        x.dead(0, true);
        x.dead(2, true);
        x.send(0, 1);
        x.steps(6);
        x.send(0, 1);
        x.steps(2);
        x.send(0, 1);
        return x;
    }

    private static Object firstOf(boolean first, Object one, boolean second, Object other, Object else_) {
        return first ? one : second ? other : else_;
    }

    private void planeAndPost() {
        int[][] wrongPlanes = {{0, 0, 0}, {9, 0, 0}, {1, -1, 0}, {1, 32, 0}, {1, 0, -4}, {1, 0, 4}};
        int[][] wrongPosts = {{-1, 0, 0}, {32, 0, 0}, {0, -1, 0}, {0, 6, 0}, {0, 0, -1}, {0, 0, 9}};
        for (int which = 0; which < 4; which++) {
            boolean letter = which % 2 == 1;
            boolean full = which / 2 == 1;
            MoonRelay x = Edges.still(full ? 6 : 5, 1, 0);
            for (int post = 0; post < (full ? 8 : 7); post++) {
                x.post(0, 0, 0);
            }
            if (letter) {
                x.send(0, 1);
            }
            String told = (letter ? "with a letter, " : "") + (full ? "full, " : "");
            for (int[] p : wrongPlanes) {
                edges.due(told + "a wrong plane", letter ? Edges.STATE : Edges.ARGUMENT, () -> x.plane(p[0], p[1], p[2]));
            }
            for (int[] p : wrongPosts) {
                edges.due(told + "a wrong post", letter ? Edges.STATE : Edges.ARGUMENT, () -> x.post(p[0], p[1], p[2]));
            }
            edges.due(told + "a good plane", firstOf(letter, Edges.STATE, full, Edges.UNSUPPORTED, 5),
                    () -> x.plane(1, 0, 0));
            edges.due(told + "a good post", firstOf(letter, Edges.STATE, full, Edges.UNSUPPORTED, 7),
                    () -> x.post(0, 0, 0));
        }
    }

    private static boolean isIn(int number, int least, int most) {
        return number >= least && number <= most;
    }

    private void calledByRelay() {
        MoonRelay x = twoOfEach();
        for (int relay : OF_TWO) {
            for (int tick : ANY_TICKS) {
                boolean good = isIn(relay, 0, 1);
                boolean late = !isIn(tick, 0, Edges.LAST_TICK);
                edges.due("over(" + relay + ", " + tick + ")",
                        firstOf(!good, Edges.INDEX, late, Edges.ARGUMENT, 4 * relay), () -> x.over(relay, tick));
            }
        }
        for (int relay : OF_TWO) {
            for (int other : OF_TWO) {
                for (int tick : ANY_TICKS) {
                    boolean good = isIn(relay, 0, 1) && isIn(other, 0, 1);
                    boolean late = !isIn(tick, 0, Edges.LAST_TICK);
                    edges.due("link(" + relay + ", " + other + ", " + tick + ")",
                            firstOf(!good, Edges.INDEX, late, Edges.ARGUMENT, relay == other ? 0 : 2),
                            () -> x.link(relay, other, tick));
                }
            }
        }
    }

    private void calledByPost() {
        for (int from : OF_TWO) {
            MoonRelay x = twoOfEach();
            for (int to : OF_TWO) {
                for (int tick : ANY_TICKS) {
                    boolean good = isIn(from, 0, 1) && isIn(to, 0, 1);
                    boolean late = !isIn(tick, 0, Edges.LAST_TICK);
                    String told = "(" + from + ", " + to + ", " + tick + ")";
                    edges.due("sees" + told, firstOf(!good, Edges.INDEX, late, Edges.ARGUMENT, from == to),
                            () -> x.sees(from, to, tick));
                    edges.due("earliest" + told,
                            firstOf(!good, Edges.INDEX, late, Edges.ARGUMENT, from == to ? tick : tick + 4),
                            () -> x.earliest(from, to, tick));
                    edges.due("part" + told,
                            firstOf(!good, Edges.INDEX, late, Edges.ARGUMENT, from == to ? Edges.NONE : 1),
                            () -> x.part(from, to, tick));
                }
            }
        }
    }

    private void lateMeetsDead() {
        MoonRelay x = twoOfEach();
        for (int from : OF_TWO) {
            boolean there = isIn(from, 0, 1);
            edges.due("meets(" + from + ")", there ? (Object) 32 : Edges.INDEX, () -> x.meets(from));
            edges.due("dead(" + from + ", false)", there ? (Object) false : Edges.INDEX, () -> x.dead(from, false));
            for (int to : OF_TWO) {
                Object due = !there || !isIn(to, 0, 1) ? Edges.INDEX : (Object) (from == to ? 0 : 4);
                edges.due("late(" + from + ", " + to + ", false)", due, () -> x.late(from, to, false));
                edges.due("late(" + from + ", " + to + ", true)", due, () -> x.late(from, to, true));
            }
        }
    }

    private void send() {
        for (int full = 0; full < 2; full++) {
            boolean is = full == 1;
            MoonRelay x = twoOfEach();
            for (int letter = 0; is && letter < 60; letter++) {
                x.send(0, 1);
            }
            for (int from : OF_TWO) {
                for (int to : OF_TWO) {
                    if (from != to && isIn(from, 0, 1) && isIn(to, 0, 1)) {
                        continue;
                    }
                    boolean good = isIn(from, 0, 1) && isIn(to, 0, 1);
                    edges.due((is ? "full, " : "") + "send(" + from + ", " + to + ")",
                            good ? Edges.ARGUMENT : Edges.INDEX, () -> x.send(from, to));
                }
            }
            edges.due((is ? "full, " : "") + "a good letter", is ? Edges.UNSUPPORTED : (Object) 0, () -> x.send(0, 1));
        }
    }

    private void look() {
        MoonRelay x = twoOfEach();
        x.send(0, 1);
        x.send(0, 1);
        for (int letter : OF_TWO) {
            for (int what : new int[] {Edges.LEAST, -1, 0, 6, Edges.GREATEST}) {
                boolean good = isIn(letter, 0, 1);
                edges.due("look(" + letter + ", " + what + ")",
                        firstOf(!good, Edges.INDEX, what != 0, Edges.ELEMENT, 0), () -> x.look(letter, what));
            }
        }
    }

    private void whateverBecameOfTheLetter() {
        MoonRelay x = lettersInAllStates();
        int[] states = {4, 5, 1, 3, 2, 0};
        for (int letter = 0; letter < states.length; letter++) {
            int l = letter;
            edges.due("the state of letter " + l, states[l], () -> x.look(l, 0));
        }
        edges.due("a plane", Edges.STATE, () -> x.plane(1, 0, 0));
        edges.due("a post", Edges.STATE, () -> x.post(0, 0, 0));
        MoonRelay out = twoOfEach();
        edges.due("a letter that is refused is none", 1, () -> {
            Check.answerOf(() -> out.send(0, 0));
            return out.plane(1, 0, 0);
        });
        out.send(0, 1);
        edges.due("a letter at its post: a plane", Edges.STATE, () -> out.plane(1, 0, 0));
        edges.due("a letter at its post: a post", Edges.STATE, () -> out.post(0, 0, 0));
        out.steps(100);
        edges.due("it is handed out", 1, () -> out.count(6));
        edges.due("handed out: a plane", Edges.STATE, () -> out.plane(1, 0, 0));
        edges.due("handed out: a post", Edges.STATE, () -> out.post(0, 0, 0));
        MoonRelay lost = twoOfEach();
        lost.send(0, 1);
        lost.steps(1);
        lost.dead(0, true);
        edges.due("it is lost", 1, () -> lost.count(7));
        edges.due("lost: a plane", Edges.STATE, () -> lost.plane(1, 0, 0));
        edges.due("lost: a post", Edges.STATE, () -> lost.post(0, 0, 0));
    }

    /** Two objects alike, one of them with a call that throws: whatever is asked then is answered alike. */
    private void nothing(String sky, Maker maker) {
        int refused = 0;
        for (Asking asking : mostlyRefused()) {
            Object answer = Check.answerOf(() -> asking.asked().of(maker.make()));
            if (!answer.toString().startsWith("throws.")) {
                continue;
            }
            refused++;
            MoonRelay x = maker.make();
            Check.answerOf(() -> asking.asked().of(x));
            String want = allAnswersOf(maker.make());
            edges.due(sky + ", " + asking.call(), want, () -> allAnswersOf(x));
        }
        int number = refused;
        edges.due(sky + ": that many calls throw", true, () -> number >= 30);
    }

    private static List<Asking> mostlyRefused() {
        List<Asking> all = new ArrayList<>();
        int[][] numbers = {{0, 0, 0}, {9, 0, 0}, {1, -1, 0}, {1, 32, 0}, {1, 0, -4}, {1, 0, 4}, {1, 0, 9}, {1, 6, 0},
            {32, 0, 0}, {8, 5, 3}};
        for (int[] n : numbers) {
            String told = "(" + n[0] + ", " + n[1] + ", " + n[2] + ")";
            all.add(new Asking("plane" + told, x -> x.plane(n[0], n[1], n[2])));
            all.add(new Asking("post" + told, x -> x.post(n[0], n[1], n[2])));
        }
        for (int tick : BAD_TICKS) {
            all.add(new Asking("over(0, " + tick + ")", x -> x.over(0, tick)));
            all.add(new Asking("link(0, 1, " + tick + ")", x -> x.link(0, 1, tick)));
            all.add(new Asking("sees(0, 0, " + tick + ")", x -> x.sees(0, 0, tick)));
            all.add(new Asking("earliest(0, 1, " + tick + ")", x -> x.earliest(0, 1, tick)));
            all.add(new Asking("part(0, 1, " + tick + ")", x -> x.part(0, 1, tick)));
        }
        for (int wrong : new int[] {Edges.LEAST, -1, 48, 101, Edges.GREATEST}) {
            all.add(new Asking("dead(" + wrong + ", true)", x -> x.dead(wrong, true)));
            all.add(new Asking("late(" + wrong + ", 0, true)", x -> x.late(wrong, 0, true)));
            all.add(new Asking("meets(" + wrong + ")", x -> x.meets(wrong)));
            all.add(new Asking("send(0, " + wrong + ")", x -> x.send(0, wrong)));
            all.add(new Asking("send(" + wrong + ", 1)", x -> x.send(wrong, 1)));
            all.add(new Asking("steps(" + wrong + ")", x -> x.steps(wrong)));
            all.add(new Asking("look(0, " + wrong + ")", x -> x.look(0, wrong)));
            all.add(new Asking("look(" + wrong + ", 0)", x -> x.look(wrong, 0)));
        }
        all.add(new Asking("send(0, 0)", x -> x.send(0, 0)));
        all.add(new Asking("send(0, 1)", x -> x.send(0, 1)));
        return all;
    }

    /** As much as an object can be asked within the 512 calls that it is used for. */
    private static String allAnswersOf(MoonRelay x) {
        StringBuilder told = new StringBuilder();
        int letters = x.count(5);
        for (int letter = 0; letter < letters; letter++) {
            for (int what = 0; what < 5; what++) {
                told.append(x.look(letter, what)).append(' ');
            }
        }
        tellSky(told, x);
        ask(told, () -> x.steps(5));
        for (int letter = 0; letter < letters; letter++) {
            told.append(x.look(letter, 0)).append(' ');
        }
        tellSky(told, x);
        ask(told, () -> x.plane(2, 3, 1));
        ask(told, () -> x.post(3, 0, 8));
        ask(told, () -> x.send(0, 1));
        tellSky(told, x);
        return told.toString();
    }

    private static void tellSky(StringBuilder told, MoonRelay x) {
        for (int what = 0; what <= 8; what++) {
            told.append(x.count(what)).append(' ');
        }
        ask(told, () -> x.over(0, 3));
        ask(told, () -> x.link(0, 1, 3));
        ask(told, () -> x.sees(0, 0, 3));
        ask(told, () -> x.meets(0));
        for (int other = 0; other < 3; other++) {
            int to = other;
            ask(told, () -> x.earliest(1, to, 3));
            ask(told, () -> x.late(1, to, true));
            ask(told, () -> x.part(1, to, 3));
        }
    }

    private static void ask(StringBuilder told, Check.Call call) {
        told.append(Check.answerOf(call)).append(' ');
    }
}
