/** The edges that the document names for letters, steps, LOST and HANDED OUT, and for looking and counting. */
public final class LetterEdgesTest {
    private final Edges edges;

    private LetterEdgesTest(Edges edges) {
        this.edges = edges;
    }

    public static void main(String[] args) throws Exception {
        Edges edges = new Edges();
        LetterEdgesTest test = new LetterEdgesTest(edges);
        test.atFirst();
        test.mostLetters();
        test.numbersOfALetter();
        test.numberOfSteps();
        test.manyStepsAsOne();
        test.callsOfAnObject();
        test.whoStays();
        test.byNumbers();
        test.tooLateForTheLink();
        test.toTheEnd();
        test.leastNumber();
        test.earliestBeforeLeast();
        test.waitsThoughAnotherIsFree();
        test.oneAfterAnother();
        test.otherLinksAreFree();
        test.takenBeforeAnother();
        test.bothDirections();
        test.sameLinkToOtherEnds();
        test.noSuchLink();
        test.through();
        test.overMidnight();
        test.lostAtARelay();
        test.lostOnALink();
        test.notLost();
        test.lostForGood();
        test.handedOutInOrder();
        test.handedOutByALoss();
        test.heldUpByTheMiddleOne();
        test.otherPostsDoNotHoldUp();
        test.eachPairIsHeldUp();
        test.lookAtEachState();
        test.lookBeside();
        test.countBeside();
        test.mostLinks();
        test.linksNow();
        edges.finish("LetterEdgesTest");
    }

    /** A letter's answers to what 0 to 5. */
    private void dueLook(String when, MoonRelay x, int letter, int... want) {
        for (int what = 0; what < want.length; what++) {
            int w = what;
            edges.due(when + ", letter " + letter + ", what " + w, want[w], () -> x.look(letter, w));
        }
    }

    /** One relay that stands still over two posts: a letter comes in two steps. */
    private static MoonRelay overhead() {
        MoonRelay x = Edges.still(1, 1, 0);
        x.post(0, 0, 0);
        x.post(0, 0, 0);
        return x;
    }

    /**
     * A ring of 8. Post 0 sees the relays 7, 0, 1 and post 1 sees 3, 4, 5; a letter of one to the other takes
     * 6 ticks over 1, 2, 3 or over 7, 6, 5. Relay 1 is the one of the least number.
     */
    private static MoonRelay ring() {
        MoonRelay x = Edges.still(1, 8, 0);
        x.post(0, 0, 4);
        x.post(16, 0, 4);
        return x;
    }

    /** The ring, with letter 0 at relay 1 and no way on from there, at NOW 1. */
    private static MoonRelay stuck() {
        MoonRelay x = ring();
        x.send(0, 1);
        x.steps(1);
        x.dead(0, true);
        x.dead(2, true);
        return x;
    }

    private void atFirst() {
        edges.says("LETTERS (at most 60, numbered from 0 on): of a POST to another one; each is at first at its POST.");
        edges.says("NOW is a tick, 0 at first.");
        MoonRelay x = overhead();
        edges.due("now", 0, () -> x.count(0));
        edges.due("the first letter", 0, () -> x.send(0, 1));
        dueLook("sent at 0", x, 0, 0, -1, 0, 0, -1, -1);
        x.steps(100);
        edges.due("the second letter", 1, () -> x.send(1, 0));
        dueLook("sent at 100", x, 1, 0, -1, 0, 100, -1, -1);
    }

    private void mostLetters() {
        edges.says("IllegalArgumentException: both POSTS are one; UnsupportedOperationException: there are 60.");
        MoonRelay x = overhead();
        for (int i = 0; i < 60; i++) {
            int number = i;
            edges.due("letter", number, () -> x.send(number % 2, 1 - number % 2));
        }
        edges.due("a 61st", Edges.UNSUPPORTED, () -> x.send(0, 1));
        edges.due("letters", 60, () -> x.count(5));
        edges.due("the last one", 0, () -> x.look(59, 0));
        edges.due("none behind it", Edges.INDEX, () -> x.look(60, 0));
        x.steps(15);
        x.dead(0, true);
        x.steps(20);
        edges.due("some are handed out", true, () -> x.count(6) > 0);
        edges.due("some are lost", true, () -> x.count(7) > 0);
        edges.due("that makes no room", Edges.UNSUPPORTED, () -> x.send(0, 1));
        edges.due("both posts one", Edges.ARGUMENT, () -> x.send(0, 0));
    }

    private void numbersOfALetter() {
        edges.says("IndexOutOfBoundsException: there is no such PLANE, RELAY, POST, LETTER.");
        int[] posts = {Edges.LEAST, -1, 0, 1, 2, 8, 256, Edges.GREATEST};
        for (int from : posts) {
            for (int to : posts) {
                MoonRelay x = overhead();
                boolean there = from >= 0 && from < 2 && to >= 0 && to < 2;
                Object due = !there ? Edges.INDEX : from == to ? Edges.ARGUMENT : (Object) 0;
                edges.due("send(" + from + ", " + to + ")", due, () -> x.send(from, to));
                edges.due("letters after send(" + from + ", " + to + ")", due.equals(0) ? 1 : 0, () -> x.count(5));
            }
        }
        MoonRelay full = new MoonRelay();
        for (int post = 0; post < 8; post++) {
            full.post(0, 0, 0);
        }
        edges.due("of the last post", 0, () -> full.send(7, 0));
        edges.due("to the last post", 1, () -> full.send(0, 7));
        edges.due("to a ninth", Edges.INDEX, () -> full.send(0, 8));
    }

    private void numberOfSteps() {
        edges.says("So many steps: NOW. IllegalArgumentException: not 0 to 100.");
        MoonRelay x = new MoonRelay();
        int now = 0;
        int[] numbers = {Edges.LEAST, -100, -1, 0, 1, 2, 99, 100, 0, 101, 200, 256, 1000, Edges.GREATEST, 100};
        for (int n : numbers) {
            boolean good = n >= 0 && n <= 100;
            now += good ? n : 0;
            int due = now;
            edges.due("steps(" + n + ")", good ? (Object) due : Edges.ARGUMENT, () -> x.steps(n));
            edges.due("now after steps(" + n + ")", due, () -> x.count(0));
        }
    }

    /** A hundred steps in one call, or in a hundred calls. */
    private void manyStepsAsOne() {
        edges.says("So many steps: NOW.");
        MoonRelay one = busy();
        MoonRelay many = busy();
        one.steps(100);
        for (int i = 0; i < 100; i++) {
            many.steps(1);
            many.steps(0);
        }
        edges.due("now", one.count(0), () -> many.count(0));
        for (int letter = 0; letter < 12; letter++) {
            dueLook("a hundred steps", many, letter, one.look(letter, 0), one.look(letter, 1), one.look(letter, 2),
                    one.look(letter, 3), one.look(letter, 4), one.look(letter, 5));
        }
    }

    private static MoonRelay busy() {
        MoonRelay x = new MoonRelay();
        x.plane(4, 0, 1);
        x.plane(5, 7, -1);
        x.plane(2, 13, 2);
        x.post(0, 0, 2);
        x.post(17, 3, 3);
        x.post(9, 1, 1);
        for (int i = 0; i < 12; i++) {
            x.send(i % 3, (i + 1 + i % 2) % 3);
        }
        return x;
    }

    private void callsOfAnObject() {
        edges.says("An object is used for at most 512 calls after it has been made");
        MoonRelay x = ring();
        x.dead(4, true);
        x.send(0, 1);
        for (int call = 6; call < 510; call++) {
            x.steps(100);
        }
        edges.due("call 510", 50400, () -> x.count(0));
        edges.due("call 511", 1, () -> x.send(1, 0));
        edges.due("call 512", 50500, () -> x.steps(100));
    }

    private void whoStays() {
        edges.says("each LETTER, by numbers, that is at a POST or RELAY (not at its end, and not on a link)");
        MoonRelay x = ring();
        x.send(0, 1);
        x.steps(2);
        dueLook("on a link, half way", x, 0, 2, 2, 2, 0, -1, -1);
        x.steps(4);
        dueLook("at its end", x, 0, 4, -1, 4, 0, 6, 6);
        x.steps(100);
        dueLook("it stays there", x, 0, 4, -1, 4, 0, 6, 6);
        MoonRelay y = stuck();
        y.send(0, 1);
        y.steps(6);
        dueLook("at its end, not handed out", y, 1, 3, -1, 4, 1, 7, -1);
        y.steps(100);
        dueLook("it stays there, too", y, 1, 3, -1, 4, 1, 7, -1);
    }

    /** Letter 1 is at the relay long before letter 0; but at the link to post 2 the lesser number goes first. */
    private void byNumbers() {
        edges.says("each LETTER, by numbers");
        for (int first = 0; first < 2; first++) {
            MoonRelay x = Edges.hand();
            x.post(5, 0, 1);
            x.post(15, 0, 1);
            x.post(20, 0, 1);
            x.send(first, 2);
            x.send(1 - first, 2);
            x.steps(18);
            edges.due("both wait at the relay", 1, () -> x.look(0, 0));
            edges.due("both wait at the relay", 1, () -> x.look(1, 0));
            x.steps(2);
            dueLook("the lesser number, of post " + first, x, 0, 4, -1, 2, 0, 20, 20);
            dueLook("the greater number waits", x, 1, 1, 0, 1, 0, -1, -1);
            x.steps(1);
            dueLook("and goes then", x, 1, 4, -1, 2, 0, 21, 21);
        }
    }

    /** Three letters for a link that may be taken at two ticks of a day. */
    private void tooLateForTheLink() {
        edges.says("if no other LETTER took that link in that direction at this step it takes it, else it waits.");
        MoonRelay x = Edges.hand();
        x.post(5, 0, 2);
        x.post(20, 0, 1);
        x.send(0, 1);
        x.send(0, 1);
        x.send(0, 1);
        x.steps(22);
        edges.due("at the first tick", 20, () -> x.look(0, 4));
        edges.due("at the second tick", 21, () -> x.look(1, 4));
        edges.due("no third tick", 1, () -> x.look(2, 0));
        x.steps(29);
        edges.due("it waits", 1, () -> x.look(2, 0));
        x.steps(1);
        edges.due("for a day", 52, () -> x.look(2, 4));
    }

    private void toTheEnd() {
        edges.says("that to its end, if it is among them, else that to the RELAY of the least number");
        MoonRelay x = Edges.still(1, 3, 0);
        x.post(8, 0, 0);
        x.post(8, 0, 8);
        x.send(0, 1);
        x.steps(1);
        edges.due("at relay 2", 2, () -> x.look(0, 1));
        x.steps(1);
        dueLook("not by relay 0 or 1, which its end sees, too", x, 0, 4, -1, 2, 0, 2, 2);
    }

    private void leastNumber() {
        edges.says("that to its end, if it is among them, else that to the RELAY of the least number");
        MoonRelay x = Edges.still(6, 1, 0);
        x.post(0, 1, 0);
        x.post(0, 1, 0);
        for (int relay = 0; relay < 3; relay++) {
            int least = relay;
            int letter = x.send(0, 1);
            x.steps(1);
            edges.due("of three relays of three planes", least, () -> x.look(letter, 1));
            x.dead(relay, true);
        }
        edges.due("all three of them lost", 3, () -> x.count(7));
        int fourth = x.send(0, 1);
        x.steps(1);
        edges.due("no relay in sight", 0, () -> x.look(fourth, 0));
        MoonRelay ring = Edges.still(1, 4, 0);
        for (int relay = 0; relay < 4; relay++) {
            ring.post(4 * relay, 0, 0);
        }
        int[] least = {1, 0, 1, 0};
        for (int from = 0; from < 4; from++) {
            int next = least[from];
            int letter = ring.send(from, (from + 2) % 4);
            ring.steps(2);
            edges.due("from relay " + from + " to the one across", next, () -> ring.look(letter, 1));
            ring.steps(4);
            edges.due("handed out", 4, () -> ring.look(letter, 0));
        }
    }

    /** Relay 0 is in sight, too, but the way over relay 1 is the earlier one. */
    private void earliestBeforeLeast() {
        edges.says("by which it could come to its end at the EARLIEST that there is from there and NOW");
        MoonRelay x = Edges.still(1, 4, 0);
        x.post(2, 0, 2);
        x.post(8, 0, 0);
        x.send(0, 1);
        edges.due("by relay 1", 4, () -> x.earliest(0, 1, 0));
        x.steps(1);
        edges.due("at relay 1", 1, () -> x.look(0, 1));
        x.steps(3);
        dueLook("and on", x, 0, 4, -1, 3, 0, 4, 4);
    }

    private void waitsThoughAnotherIsFree() {
        edges.says("(as if there were no other LETTERS)");
        edges.says("if no other LETTER took that link in that direction at this step it takes it, else it waits.");
        MoonRelay x = Edges.still(2, 1, 0);
        x.post(0, 0, 0);
        x.post(0, 0, 0);
        x.send(0, 1);
        x.send(0, 1);
        x.steps(1);
        dueLook("the first one by relay 0", x, 0, 1, 0, 1, 0, -1, -1);
        dueLook("the second one waits, though relay 1 is free", x, 1, 0, -1, 0, 0, -1, -1);
        x.steps(1);
        dueLook("and takes relay 0, too", x, 1, 1, 0, 1, 0, -1, -1);
    }

    /** All sixty letters over one link: one a step. */
    private void oneAfterAnother() {
        edges.says("if no other LETTER took that link in that direction at this step it takes it, else it waits.");
        MoonRelay x = overhead();
        for (int i = 0; i < 60; i++) {
            x.send(0, 1);
        }
        x.steps(60);
        edges.due("the last one is out", 1, () -> x.look(59, 0));
        x.steps(1);
        for (int i = 0; i < 60; i++) {
            int letter = i;
            edges.due("letter " + i + " came", i + 2, () -> x.look(letter, 4));
            edges.due("letter " + i + " was handed out", i + 2, () -> x.look(letter, 5));
            edges.due("letter " + i + " took two links", 2, () -> x.look(letter, 2));
        }
    }

    private void otherLinksAreFree() {
        edges.says("if no other LETTER took that link in that direction at this step it takes it, else it waits.");
        MoonRelay x = Edges.still(1, 1, 0);
        for (int i = 0; i < 4; i++) {
            x.post(0, 0, 0);
        }
        x.send(0, 1);
        x.send(2, 1);
        x.send(3, 2);
        x.send(1, 0);
        x.steps(1);
        for (int i = 0; i < 4; i++) {
            int letter = i;
            edges.due("from four posts to one relay at one step", 1, () -> x.look(letter, 0));
        }
        x.steps(1);
        edges.due("to post 1", 4, () -> x.look(0, 0));
        edges.due("to post 1 at the same step", 1, () -> x.look(1, 0));
        edges.due("to post 2", 4, () -> x.look(2, 0));
        edges.due("to post 0", 4, () -> x.look(3, 0));
        x.steps(1);
        edges.due("to post 1 a step later", 4, () -> x.look(1, 0));
        MoonRelay y = Edges.still(2, 1, 0);
        y.post(0, 0, 0);
        y.post(0, 2, 0);
        y.post(0, 1, 0);
        y.send(0, 2);
        y.send(1, 2);
        y.steps(1);
        edges.due("one at relay 0", 0, () -> y.look(0, 1));
        edges.due("one at relay 1", 1, () -> y.look(1, 1));
        y.steps(1);
        edges.due("from relay 0 to the end", 2, () -> y.look(0, 4));
        edges.due("from relay 1 to the same end at the same step", 2, () -> y.look(1, 4));
    }

    /** What the letter in between took is another link: that the first one took it still counts for the third. */
    private void takenBeforeAnother() {
        edges.says("if no other LETTER took that link in that direction at this step it takes it, else it waits.");
        MoonRelay x = Edges.still(1, 2, 0);
        x.post(2, 0, 2);
        x.post(0, 0, 0);
        x.post(4, 0, 0);
        x.send(0, 1);
        x.send(0, 2);
        x.send(0, 1);
        x.send(0, 2);
        x.steps(1);
        edges.due("the first one by relay 0", 0, () -> x.look(0, 1));
        edges.due("the second one by relay 1", 1, () -> x.look(1, 1));
        edges.due("the third one waits", 0, () -> x.look(2, 0));
        edges.due("the fourth one waits", 0, () -> x.look(3, 0));
        x.steps(1);
        edges.due("the third one by relay 0", 0, () -> x.look(2, 1));
        edges.due("the fourth one by relay 1", 1, () -> x.look(3, 1));
    }

    private void bothDirections() {
        edges.says("if no other LETTER took that link in that direction at this step it takes it, else it waits.");
        MoonRelay x = Edges.still(1, 2, 0);
        x.post(0, 0, 0);
        x.post(4, 0, 0);
        x.send(0, 1);
        x.send(1, 0);
        x.steps(2);
        dueLook("there", x, 0, 2, 1, 2, 0, -1, -1);
        dueLook("and back at the same step", x, 1, 2, 0, 2, 0, -1, -1);
        x.steps(2);
        edges.due("both came", 4, () -> x.look(0, 5));
        edges.due("both came", 4, () -> x.look(1, 5));
    }

    /** Letters of other posts are other letters, too; and a link of LENGTH 2 is free again at the next step. */
    private void sameLinkToOtherEnds() {
        edges.says("if no other LETTER took that link in that direction at this step it takes it, else it waits.");
        MoonRelay x = Edges.still(1, 3, 0);
        x.dead(2, true);
        x.post(0, 0, 0);
        x.post(4, 0, 0);
        x.post(4, 0, 0);
        x.post(0, 0, 0);
        x.send(0, 1);
        x.send(0, 2);
        x.send(3, 2);
        x.steps(1);
        edges.due("to another end, by the same link", 0, () -> x.look(1, 0));
        edges.due("from another post", 1, () -> x.look(2, 0));
        x.steps(1);
        edges.due("the first is on the link of LENGTH 2", 2, () -> x.look(0, 0));
        edges.due("that of another post wanted it, too", 1, () -> x.look(2, 0));
        edges.due("the second is at relay 0", 1, () -> x.look(1, 0));
        x.steps(1);
        edges.due("the second takes it before the third", 2, () -> x.look(1, 0));
        edges.due("which waits", 1, () -> x.look(2, 0));
        x.steps(1);
        edges.due("and follows", 2, () -> x.look(2, 0));
        x.steps(3);
        edges.due("in turn", 4, () -> x.look(0, 5));
        edges.due("in turn", 5, () -> x.look(1, 5));
        edges.due("in turn", 6, () -> x.look(2, 5));
    }

    private void noSuchLink() {
        edges.says("(It waits, too, if there is no such link.)");
        MoonRelay x = overhead();
        x.dead(0, true);
        x.send(0, 1);
        x.steps(100);
        dueLook("no link at all", x, 0, 0, -1, 0, 0, -1, -1);
        x.dead(0, false);
        x.steps(2);
        dueLook("as soon as there is one", x, 0, 4, -1, 2, 0, 102, 102);
        MoonRelay y = stuck();
        y.steps(100);
        dueLook("at a relay", y, 0, 1, 1, 1, 0, -1, -1);
        y.dead(2, false);
        y.steps(5);
        dueLook("at a relay, till one lives again", y, 0, 4, -1, 4, 0, 106, 106);
        MoonRelay z = Edges.hand();
        z.post(10, 0, 1);
        z.post(20, 0, 1);
        z.send(0, 1);
        z.steps(9);
        dueLook("too early by a tick", z, 0, 0, -1, 0, 0, -1, -1);
        z.steps(1);
        dueLook("at the first tick", z, 0, 1, 0, 1, 0, -1, -1);
        MoonRelay blind = Edges.hand();
        blind.post(0, 0, 0);
        blind.post(1, 0, 8);
        blind.send(0, 1);
        blind.send(1, 0);
        blind.steps(100);
        dueLook("a link that is not there long enough", blind, 0, 0, -1, 0, 0, -1, -1);
        dueLook("nor is one taken that leads to no way", blind, 1, 0, -1, 0, 0, -1, -1);
    }

    private void through() {
        edges.says("Then NOW is one more; a LETTER that is through is at the link's end.");
        MoonRelay x = ring();
        x.send(0, 1);
        x.steps(1);
        dueLook("LENGTH 1, after one step", x, 0, 1, 1, 1, 0, -1, -1);
        x.steps(1);
        dueLook("LENGTH 2, after one step", x, 0, 2, 2, 2, 0, -1, -1);
        x.steps(1);
        dueLook("LENGTH 2, after two steps", x, 0, 1, 2, 2, 0, -1, -1);
        x.steps(1);
        dueLook("the next one", x, 0, 2, 3, 3, 0, -1, -1);
        x.steps(1);
        dueLook("at its end", x, 0, 1, 3, 3, 0, -1, -1);
        x.steps(1);
        dueLook("out at the post", x, 0, 4, -1, 4, 0, 6, 6);
    }

    private void overMidnight() {
        edges.says("(All goes round by 32 ticks.)");
        MoonRelay x = Edges.hand();
        x.post(31, 0, 1);
        x.post(1, 0, 1);
        x.steps(31);
        x.send(0, 1);
        x.steps(1);
        dueLook("taken at 31", x, 0, 1, 0, 1, 31, -1, -1);
        x.steps(1);
        dueLook("there at 33", x, 0, 4, -1, 2, 31, 33, 33);
        MoonRelay y = Edges.hand();
        y.post(31, 0, 1);
        y.post(1, 0, 1);
        y.steps(32);
        y.send(0, 1);
        y.steps(32);
        dueLook("too late at 32", y, 0, 1, 0, 1, 32, -1, -1);
        y.steps(1);
        dueLook("there a day later", y, 0, 4, -1, 2, 32, 65, 65);
    }

    private static final String LOST = "A LETTER that is at a RELAY, or on a link to or from one, when that becomes"
            + " DEAD, is LOST.";

    private void lostAtARelay() {
        edges.says(LOST);
        for (int relay = 0; relay < 8; relay++) {
            MoonRelay x = ring();
            x.send(0, 1);
            x.steps(1);
            x.dead(relay, true);
            int state = relay == 1 ? 5 : 1;
            edges.due("at relay 1, dead " + relay, state, () -> x.look(0, 0));
            edges.due("counted, dead " + relay, state == 5 ? 1 : 0, () -> x.count(7));
        }
        MoonRelay many = overhead();
        for (int i = 0; i < 6; i++) {
            many.post(0, 0, 0);
        }
        for (int i = 0; i < 7; i++) {
            many.send(i, 7);
        }
        many.steps(1);
        many.dead(0, true);
        edges.due("all that are there", 7, () -> many.count(7));
    }

    private void lostOnALink() {
        edges.says(LOST);
        for (int relay = 0; relay < 8; relay++) {
            MoonRelay x = ring();
            x.send(0, 1);
            x.steps(2);
            x.dead(relay, true);
            int state = relay == 1 || relay == 2 ? 5 : 2;
            edges.due("on the link from 1 to 2, dead " + relay, state, () -> x.look(0, 0));
        }
        for (int relay = 0; relay < 8; relay++) {
            MoonRelay x = ring();
            x.send(0, 1);
            x.steps(3);
            x.dead(relay, true);
            int state = relay == 2 ? 5 : 1;
            edges.due("off the link from 1 to 2, dead " + relay, state, () -> x.look(0, 0));
        }
    }

    private void notLost() {
        edges.says(LOST);
        MoonRelay x = overhead();
        x.send(0, 1);
        x.steps(2);
        x.send(0, 1);
        x.dead(0, true);
        edges.due("at its end", 4, () -> x.look(0, 0));
        edges.due("at its post", 0, () -> x.look(1, 0));
        edges.due("none", 0, () -> x.count(7));
        MoonRelay y = stuck();
        y.send(0, 1);
        y.steps(6);
        for (int relay = 3; relay < 8; relay++) {
            y.dead(relay, true);
        }
        edges.due("at its end, not handed out", 3, () -> y.look(1, 0));
        MoonRelay z = ring();
        z.send(0, 1);
        z.steps(1);
        z.dead(1, false);
        edges.due("that does not become dead", 1, () -> z.look(0, 0));
        z.dead(0, true);
        z.dead(0, true);
        z.dead(0, false);
        edges.due("another one becomes dead, and lives", 1, () -> z.look(0, 0));
    }

    private void lostForGood() {
        edges.says(LOST);
        MoonRelay x = ring();
        x.send(0, 1);
        x.steps(4);
        x.dead(3, true);
        dueLook("lost", x, 0, 5, -1, 3, 0, -1, -1);
        x.dead(3, false);
        dueLook("the relay lives again", x, 0, 5, -1, 3, 0, -1, -1);
        x.steps(100);
        dueLook("for good", x, 0, 5, -1, 3, 0, -1, -1);
        x.dead(3, true);
        edges.due("and once only", 1, () -> x.count(7));
        edges.due("not handed out", 0, () -> x.count(6));
        edges.due("a letter still", 1, () -> x.count(5));
    }

    private static final String ORDER = "A LETTER that has come to its end is HANDED OUT as soon as all LETTERS of the"
            + " same two POSTS (from, to) with lesser numbers are HANDED OUT or LOST.";

    private void handedOutInOrder() {
        edges.says(ORDER);
        MoonRelay x = stuck();
        x.send(0, 1);
        x.send(0, 1);
        x.steps(7);
        dueLook("came before the first one", x, 1, 3, -1, 4, 1, 7, -1);
        dueLook("came before the first one, too", x, 2, 3, -1, 4, 1, 8, -1);
        edges.due("none is handed out", 0, () -> x.count(6));
        x.dead(2, false);
        x.steps(4);
        edges.due("none is handed out yet", 0, () -> x.count(6));
        x.steps(1);
        dueLook("the first one", x, 0, 4, -1, 4, 0, 13, 13);
        dueLook("the second one with it", x, 1, 4, -1, 4, 1, 7, 13);
        dueLook("the third one with it", x, 2, 4, -1, 4, 1, 8, 13);
        edges.due("all are handed out", 3, () -> x.count(6));
    }

    private void handedOutByALoss() {
        edges.says(ORDER);
        MoonRelay x = stuck();
        x.send(0, 1);
        x.send(0, 1);
        x.steps(10);
        x.dead(1, true);
        dueLook("the first one is lost", x, 0, 5, -1, 1, 0, -1, -1);
        dueLook("the second one is handed out at once", x, 1, 4, -1, 4, 1, 7, 11);
        dueLook("so is the third one", x, 2, 4, -1, 4, 1, 8, 11);
        x.send(0, 1);
        x.steps(6);
        dueLook("the next one is not held up", x, 3, 4, -1, 4, 11, 17, 17);
        MoonRelay y = ring();
        y.send(0, 1);
        y.steps(1);
        y.dead(1, true);
        y.send(0, 1);
        y.steps(6);
        dueLook("lost before the second one came", y, 1, 4, -1, 4, 1, 7, 7);
        MoonRelay z = ring();
        z.send(0, 1);
        z.steps(2);
        z.send(0, 1);
        z.steps(1);
        z.dead(1, true);
        edges.due("a greater number is lost", 5, () -> z.look(1, 0));
        z.steps(3);
        dueLook("that holds up no lesser one", z, 0, 4, -1, 4, 0, 6, 6);
    }

    /** Two rings that do not meet, so that two letters can be stuck while a third one comes. */
    private static MoonRelay twoRings() {
        MoonRelay x = new MoonRelay();
        x.plane(8, 0, 0);
        x.plane(1, 10, 0);
        x.plane(8, 0, 0);
        x.post(0, 1, 4);
        x.post(16, 1, 4);
        x.post(16, 1, 4);
        x.dead(8, true);
        return x;
    }

    private void heldUpByTheMiddleOne() {
        edges.says(ORDER);
        MoonRelay x = twoRings();
        x.send(0, 1);
        x.steps(1);
        x.dead(0, true);
        x.dead(2, true);
        x.send(0, 1);
        x.steps(1);
        x.dead(6, true);
        edges.due("the first one is stuck at relay 1", 1, () -> x.look(0, 1));
        edges.due("the second one is stuck at relay 7", 7, () -> x.look(1, 1));
        x.send(0, 1);
        x.steps(6);
        dueLook("the third one came by the other ring", x, 2, 3, -1, 4, 2, 8, -1);
        x.dead(1, true);
        dueLook("the first one is lost, the second one is to come", x, 2, 3, -1, 4, 2, 8, -1);
        x.steps(3);
        x.dead(7, true);
        dueLook("the second one is lost, too", x, 2, 4, -1, 4, 2, 8, 11);
    }

    private void otherPostsDoNotHoldUp() {
        edges.says(ORDER);
        MoonRelay x = ring();
        x.post(16, 0, 4);
        x.post(0, 0, 4);
        x.send(0, 1);
        x.steps(1);
        x.dead(0, true);
        x.dead(2, true);
        x.send(1, 0);
        x.send(0, 2);
        x.send(3, 1);
        x.send(0, 1);
        x.steps(20);
        edges.due("the same posts the other way", 4, () -> x.look(1, 0));
        edges.due("of the same post to another one", 4, () -> x.look(2, 0));
        edges.due("of another post to the same one", 4, () -> x.look(3, 0));
        edges.due("of the same two posts", 3, () -> x.look(4, 0));
    }

    /** Letters of one post to two others are stuck: each of them holds up those of its own two posts. */
    private void eachPairIsHeldUp() {
        edges.says(ORDER);
        MoonRelay x = twoRings();
        x.send(0, 1);
        x.steps(1);
        x.dead(0, true);
        x.dead(2, true);
        x.send(0, 2);
        x.steps(1);
        x.dead(6, true);
        edges.due("one to post 1 is stuck at relay 1", 1, () -> x.look(0, 1));
        edges.due("one to post 2 is stuck at relay 7", 7, () -> x.look(1, 1));
        x.send(0, 1);
        x.send(0, 2);
        x.steps(7);
        dueLook("another one to post 1 came", x, 2, 3, -1, 4, 2, 8, -1);
        dueLook("another one to post 2 came", x, 3, 3, -1, 4, 2, 9, -1);
        x.dead(7, true);
        edges.due("to post 1 it is held up still", 3, () -> x.look(2, 0));
        edges.due("to post 2 it is handed out", 9, () -> x.look(3, 5));
        x.steps(1);
        x.dead(1, true);
        edges.due("to post 1 it is handed out now", 10, () -> x.look(2, 5));
    }

    private static final String LOOK = "Of a LETTER what 0: 0 at its POST, 1 at a RELAY, 2 on a link, 3 at its end,"
            + " 4 HANDED OUT, 5 LOST; 1 the RELAY where it is, or to which it goes (NONE: a POST, or LOST); 2 how many"
            + " links it took; 3 the tick at which it was sent, 4 came to its end (NONE), 5 was HANDED OUT (NONE)."
            + " NoSuchElementException: another what.";

    private void lookAtEachState() {
        edges.says(LOOK);
        MoonRelay x = stuck();
        x.steps(4);
        x.send(0, 1);
        dueLook("at its POST", x, 1, 0, -1, 0, 5, -1, -1);
        x.steps(1);
        dueLook("at a RELAY", x, 1, 1, 7, 1, 5, -1, -1);
        x.steps(1);
        dueLook("on a link", x, 1, 2, 6, 2, 5, -1, -1);
        x.steps(4);
        dueLook("at its end", x, 1, 3, -1, 4, 5, 11, -1);
        x.steps(2);
        x.dead(1, true);
        dueLook("HANDED OUT", x, 1, 4, -1, 4, 5, 11, 13);
        dueLook("LOST", x, 0, 5, -1, 1, 0, -1, -1);
        MoonRelay zero = overhead();
        zero.send(0, 1);
        zero.steps(1);
        dueLook("relay 0 is a RELAY, too", zero, 0, 1, 0, 1, 0, -1, -1);
        MoonRelay last = Edges.still(6, 8, 0);
        last.post(28, 5, 0);
        last.post(28, 5, 0);
        last.dead(39, true);
        last.send(0, 1);
        last.steps(1);
        dueLook("so is relay 47", last, 0, 1, 47, 1, 0, -1, -1);
    }

    private void lookBeside() {
        edges.says(LOOK);
        MoonRelay x = overhead();
        x.send(0, 1);
        x.send(1, 0);
        int[] whats = {Edges.LEAST, -1, 6, 7, 8, 256, Edges.GREATEST};
        for (int what : whats) {
            edges.due("what " + what, Edges.ELEMENT, () -> x.look(0, what));
            edges.due("of the last letter, what " + what, Edges.ELEMENT, () -> x.look(1, what));
            edges.due("of no letter, what " + what, Edges.INDEX, () -> x.look(2, what));
        }
        for (int letter : new int[] {Edges.LEAST, -1, 2, 59, 60, 256, Edges.GREATEST}) {
            edges.due("letter " + letter, Edges.INDEX, () -> x.look(letter, 0));
        }
    }

    private static final String COUNT = "0 NOW, 1 PLANES, 2 RELAYS, 3 DEAD, 4 POSTS, 5 LETTERS, 6 HANDED OUT, 7 LOST,"
            + " 8 links of RELAYS with one another NOW. NONE for another what.";

    private void countBeside() {
        edges.says(COUNT);
        MoonRelay full = Edges.still(6, 8, 0);
        for (int post = 0; post < 8; post++) {
            full.post(0, 0, 0);
        }
        for (int letter = 0; letter < 60; letter++) {
            full.send(0, 1);
        }
        full.steps(100);
        full.dead(47, true);
        int[] want = {100, 6, 48, 1, 8, 60, 60, 0, 88 - 3};
        for (int what = 0; what < want.length; what++) {
            int w = what;
            edges.due("full, what " + w, want[w], () -> full.count(w));
        }
        MoonRelay empty = new MoonRelay();
        for (int what : new int[] {Edges.LEAST, -2, -1, 9, 10, 256, Edges.GREATEST}) {
            edges.due("what " + what, Edges.NONE, () -> full.count(what));
            edges.due("of an empty sky, what " + what, Edges.NONE, () -> empty.count(what));
        }
    }

    private void mostLinks() {
        edges.says("8 links of RELAYS with one another NOW.");
        MoonRelay x = new MoonRelay();
        for (int plane = 0; plane < 6; plane++) {
            x.plane(8, plane % 2 * 2, 0);
        }
        x.post(0, 1, 8);
        edges.due("each relay with two of a plane beside", 6 * 8 + 5 * 16, () -> x.count(8));
        for (int relay = 0; relay < 48; relay++) {
            x.dead(relay, true);
        }
        edges.due("all dead", 0, () -> x.count(8));
        x.dead(20, false);
        edges.due("one lives", 0, () -> x.count(8));
        x.dead(21, false);
        edges.due("two live", 1, () -> x.count(8));
        MoonRelay one = Edges.still(1, 1, 0);
        one.post(0, 0, 0);
        edges.due("a post's link is none of them", 0, () -> one.count(8));
        for (int size = 1; size <= 8; size++) {
            MoonRelay y = Edges.still(1, size, 0);
            int links = size >= 3 ? size : size - 1;
            edges.due("a plane of " + size, links, () -> y.count(8));
        }
    }

    private void linksNow() {
        edges.says("8 links of RELAYS with one another NOW.");
        MoonRelay x = Edges.hand();
        x.plane(1, 30, 0);
        for (int now = 0; now < 70; now++) {
            int due = Edges.apart(now % 32, 30) <= 2 ? 1 : 0;
            edges.due("at " + now, due, () -> x.count(8));
            edges.due("the same link, at " + now, due, () -> x.link(0, 1, x.count(0)));
            x.steps(1);
        }
    }
}
