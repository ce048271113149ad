/** Each promise by itself: ordinary inputs, the edges that the document names, and wrong inputs. */
public final class PromisesTest {
    private static final String STATE = "throws.IllegalStateException";
    private static final String ARGUMENT = "throws.IllegalArgumentException";
    private static final String UNSUPPORTED = "throws.UnsupportedOperationException";
    private static final String INDEX = "throws.IndexOutOfBoundsException";
    private static final String ELEMENT = "throws.NoSuchElementException";

    private static final Check CHECK = new Check();

    public static void main(String[] args) {
        newObject();
        plane();
        planeLimits();
        post();
        over();
        dead();
        linkInPlane();
        linkAcross();
        sees();
        earliest();
        earliestNeedsTheWholeLength();
        earliestGoesOverNoPost();
        earliestSeesTheNewSky();
        late();
        meets();
        part();
        partGoesOverNoPost();
        send();
        steps();
        stepsChooseTheLeastRelay();
        stepsTakeTheLinkToTheEnd();
        stepsWaitForATakenLink();
        stepsMoveWhereWaitingIsNoWorse();
        look();
        lookHandedOutInOrder();
        lookLost();
        lostLettersLetOthersOut();
        count();
        throwingChangesNothing();
        CHECK.finish("PromisesTest");
    }

    private static void due(String call, Object want, Check.Call made) {
        CHECK.due(call, want, made);
    }

    private static MoonRelay ring(int relays) {
        MoonRelay x = new MoonRelay();
        x.plane(relays, 0, 0);
        return x;
    }

    private static void newObject() {
        MoonRelay x = new MoonRelay();
        due("NONE", -1, () -> MoonRelay.NONE);
        for (int what = 0; what <= 8; what++) {
            int w = what;
            due("1 count " + w, 0, () -> x.count(w));
        }
        due("1 no relay", INDEX, () -> x.over(0, 0));
        due("1 no post", INDEX, () -> x.meets(0));
        due("1 no letter", INDEX, () -> x.look(0, 0));
        due("1 steps in an empty sky", 5, () -> x.steps(5));
    }

    private static void plane() {
        MoonRelay x = new MoonRelay();
        due("2 first", 0, () -> x.plane(1, 0, -3));
        due("2 second", 1, () -> x.plane(8, 31, 3));
        due("2 relays 0", ARGUMENT, () -> x.plane(0, 0, 0));
        due("2 relays 9", ARGUMENT, () -> x.plane(9, 0, 0));
        due("2 relays -1", ARGUMENT, () -> x.plane(-1, 0, 0));
        due("2 phase -1", ARGUMENT, () -> x.plane(1, -1, 0));
        due("2 phase 32", ARGUMENT, () -> x.plane(1, 32, 0));
        due("2 speed -4", ARGUMENT, () -> x.plane(1, 0, -4));
        due("2 speed 4", ARGUMENT, () -> x.plane(1, 0, 4));
        due("2 least int", ARGUMENT, () -> x.plane(Integer.MIN_VALUE, Integer.MIN_VALUE, Integer.MIN_VALUE));
        due("2 greatest int", ARGUMENT, () -> x.plane(1, 0, Integer.MAX_VALUE));
        due("2 planes", 2, () -> x.count(1));
        due("2 relays", 9, () -> x.count(2));
        due("2 the second plane's relays come behind", 3, () -> x.over(2, 0));
    }

    private static void planeLimits() {
        MoonRelay x = new MoonRelay();
        for (int i = 0; i < 6; i++) {
            int due = i;
            due("2 plane " + i, due, () -> x.plane(8, 0, 0));
        }
        due("2 a seventh", UNSUPPORTED, () -> x.plane(8, 0, 0));
        due("2 a seventh, and wrong", ARGUMENT, () -> x.plane(9, 0, 0));
        due("2 all relays", 48, () -> x.count(2));
        due("2 the last relay", 28, () -> x.over(47, 0));
        x.post(0, 0, 0);
        x.post(1, 0, 0);
        x.send(0, 1);
        due("2 with a letter, a seventh, and wrong", STATE, () -> x.plane(0, 0, 0));
        x.steps(100);
        due("2 with a letter later on", STATE, () -> x.plane(8, 0, 0));
    }

    private static void post() {
        MoonRelay x = ring(8);
        due("3 first", 0, () -> x.post(0, 0, 0));
        due("3 greatest numbers", 1, () -> x.post(31, 5, 8));
        due("3 place -1", ARGUMENT, () -> x.post(-1, 0, 0));
        due("3 place 32", ARGUMENT, () -> x.post(32, 0, 0));
        due("3 plane -1", ARGUMENT, () -> x.post(0, -1, 0));
        due("3 plane 6", ARGUMENT, () -> x.post(0, 6, 0));
        due("3 sight -1", ARGUMENT, () -> x.post(0, 0, -1));
        due("3 sight 9", ARGUMENT, () -> x.post(0, 0, 9));
        due("3 posts", 2, () -> x.count(4));
        for (int i = 2; i < 8; i++) {
            int due = i;
            due("3 post " + i, due, () -> x.post(due, 0, 1));
        }
        due("3 a ninth", UNSUPPORTED, () -> x.post(0, 0, 0));
        due("3 a ninth, and wrong", ARGUMENT, () -> x.post(0, 0, 9));
        x.send(0, 1);
        due("3 with a letter, a ninth, and wrong", STATE, () -> x.post(0, 0, 9));
        due("3 still", 8, () -> x.count(4));
    }

    private static void over() {
        MoonRelay x = new MoonRelay();
        x.plane(8, 5, 3);
        x.plane(8, 5, -3);
        due("4 at first", 5, () -> x.over(0, 0));
        due("4 four places on each", 17, () -> x.over(3, 0));
        due("4 round", 1, () -> x.over(7, 0));
        due("4 forward", 8, () -> x.over(0, 1));
        due("4 backward", 2, () -> x.over(8, 1));
        due("4 backward below 0", 28, () -> x.over(8, 3));
        due("4 a day later", 5, () -> x.over(0, 32));
        due("4 last tick", 5, () -> x.over(0, 100000000));
        due("4 last tick but one", 8, () -> x.over(8, 99999999));
        due("4 tick below", ARGUMENT, () -> x.over(0, -1));
        due("4 tick above", ARGUMENT, () -> x.over(0, 100000001));
        due("4 relay below", INDEX, () -> x.over(-1, 0));
        due("4 relay above", INDEX, () -> x.over(16, 0));
        due("4 both wrong", INDEX, () -> x.over(16, -1));
        due("4 farthest", INDEX, () -> x.over(Integer.MAX_VALUE, 0));
    }

    private static void dead() {
        MoonRelay x = ring(4);
        due("5 not dead already", false, () -> x.dead(1, false));
        due("5 dead now", true, () -> x.dead(1, true));
        due("5 dead already", false, () -> x.dead(1, true));
        due("5 counted", 1, () -> x.count(3));
        due("5 no link", 0, () -> x.link(0, 1, 0));
        due("5 no link from it", 0, () -> x.link(1, 2, 0));
        due("5 it turns on", 4, () -> x.over(1, 0));
        due("5 alive again", true, () -> x.dead(1, false));
        due("5 link again", 2, () -> x.link(0, 1, 0));
        due("5 none dead", 0, () -> x.count(3));
        due("5 relay below", INDEX, () -> x.dead(-1, true));
        due("5 relay above", INDEX, () -> x.dead(4, false));
    }

    private static void linkInPlane() {
        MoonRelay one = ring(1);
        due("6 with itself", 0, () -> one.link(0, 0, 0));
        MoonRelay two = ring(2);
        due("6 of two", 2, () -> two.link(1, 0, 0));
        MoonRelay three = ring(3);
        due("6 last and first of three", 2, () -> three.link(2, 0, 0));
        MoonRelay x = new MoonRelay();
        x.plane(2, 0, 0);
        x.plane(8, 16, 1);
        due("6 last and first", 2, () -> x.link(9, 2, 77));
        due("6 next", 2, () -> x.link(5, 6, 77));
        due("6 next but one", 0, () -> x.link(5, 7, 77));
        due("6 next by number, of two planes", 0, () -> x.link(1, 2, 0));
        due("6 tick below", ARGUMENT, () -> x.link(0, 1, -1));
        due("6 tick above", ARGUMENT, () -> x.link(0, 1, 100000001));
        due("6 last tick", 2, () -> x.link(0, 1, 100000000));
        due("6 first relay wrong", INDEX, () -> x.link(-1, 0, -1));
        due("6 second relay wrong", INDEX, () -> x.link(0, 10, -1));
    }

    private static void linkAcross() {
        MoonRelay x = new MoonRelay();
        x.plane(1, 0, 0);
        x.plane(1, 30, 1);
        x.plane(1, 0, 0);
        due("6 apart by 2 round the ring", 1, () -> x.link(0, 1, 0));
        due("6 the other way", 1, () -> x.link(1, 0, 0));
        due("6 apart by 2 after it", 1, () -> x.link(0, 1, 4));
        due("6 apart by 3 after it", 0, () -> x.link(0, 1, 5));
        due("6 apart by 3 before it", 0, () -> x.link(0, 1, 31));
        due("6 not beside one another", 0, () -> x.link(0, 2, 0));
        due("6 the next planes", 1, () -> x.link(1, 2, 36));
        MoonRelay six = new MoonRelay();
        for (int i = 0; i < 6; i++) {
            six.plane(1, 0, 0);
        }
        due("6 the last and the first plane", 0, () -> six.link(0, 5, 0));
        due("6 the last two", 1, () -> six.link(4, 5, 0));
    }

    private static void sees() {
        MoonRelay x = new MoonRelay();
        x.post(30, 1, 4);
        for (int i = 0; i < 4; i++) {
            x.plane(1, 2, i == 0 ? 1 : 0);
        }
        x.post(2, 1, 0);
        due("7 its plane, round the ring", true, () -> x.sees(0, 1, 0));
        due("7 a plane beside", true, () -> x.sees(0, 2, 0));
        due("7 the other plane beside", true, () -> x.sees(0, 0, 0));
        due("7 a plane farther", false, () -> x.sees(0, 3, 0));
        due("7 too far by 1", false, () -> x.sees(0, 0, 1));
        due("7 back again", true, () -> x.sees(0, 0, 24));
        due("7 sight 0", true, () -> x.sees(1, 1, 9));
        due("7 sight 0, apart by 1", false, () -> x.sees(1, 0, 1));
        x.dead(1, true);
        due("7 dead", false, () -> x.sees(0, 1, 0));
        due("7 no post", INDEX, () -> x.sees(2, 0, -1));
        due("7 post below", INDEX, () -> x.sees(-1, 0, 0));
        due("7 no relay", INDEX, () -> x.sees(0, 4, -1));
        due("7 relay below", INDEX, () -> x.sees(0, -1, 0));
        due("7 tick below", ARGUMENT, () -> x.sees(0, 0, -1));
        due("7 tick above", ARGUMENT, () -> x.sees(0, 0, 100000001));
    }

    private static void earliest() {
        MoonRelay x = ring(8);
        x.post(0, 0, 0);
        x.post(12, 0, 0);
        due("8 over four relays", 8, () -> x.earliest(0, 1, 0));
        due("8 back", 8, () -> x.earliest(1, 0, 0));
        due("8 from a later tick", 100000008, () -> x.earliest(0, 1, 100000000));
        due("8 both one", 7, () -> x.earliest(1, 1, 7));
        x.dead(2, true);
        due("8 the long way round", 12, () -> x.earliest(0, 1, 0));
        x.dead(6, true);
        due("8 never", -1, () -> x.earliest(0, 1, 0));
        due("8 both one, none sees it", 3, () -> x.earliest(1, 1, 3));
        due("8 tick below", ARGUMENT, () -> x.earliest(0, 0, -1));
        due("8 tick above", ARGUMENT, () -> x.earliest(0, 1, 100000001));
        due("8 from wrong", INDEX, () -> x.earliest(-1, 0, -1));
        due("8 to wrong", INDEX, () -> x.earliest(0, 2, -1));
    }

    /** Sight 0 and a relay that moves: the link is there at one tick, and can never be taken. */
    private static void earliestNeedsTheWholeLength() {
        MoonRelay x = new MoonRelay();
        x.plane(1, 0, 1);
        x.post(0, 0, 0);
        x.post(5, 0, 1);
        x.post(9, 0, 1);
        due("8 there, but not long enough", -1, () -> x.earliest(0, 1, 0));
        due("8 to it neither", -1, () -> x.earliest(1, 0, 0));
        due("8 two ticks are enough", 9, () -> x.earliest(1, 2, 5));
        due("8 too late, a day later", 41, () -> x.earliest(1, 2, 6));
        due("8 the other way round", 37, () -> x.earliest(2, 1, 0));
    }

    private static void earliestGoesOverNoPost() {
        MoonRelay x = new MoonRelay();
        x.plane(1, 0, 0);
        x.plane(1, 8, 0);
        x.post(0, 0, 1);
        x.post(4, 0, 4);
        x.post(8, 1, 1);
        due("8 to the post between", 2, () -> x.earliest(0, 1, 0));
        due("8 from the post between", 2, () -> x.earliest(1, 2, 0));
        due("8 not over the post between", -1, () -> x.earliest(0, 2, 0));
    }

    /** What was answered before a plane or a post came is not answered again. */
    private static void earliestSeesTheNewSky() {
        MoonRelay x = new MoonRelay();
        x.post(0, 0, 0);
        x.post(0, 1, 0);
        due("8 no relay", -1, () -> x.earliest(0, 1, 0));
        x.plane(1, 0, 0);
        due("8 a plane more", 2, () -> x.earliest(0, 1, 0));
        due("9 a plane more", 2, () -> x.late(0, 1, true));
        x.post(1, 0, 1);
        due("8 from a new post", 2, () -> x.earliest(2, 1, 0));
        due("8 to a new post", 2, () -> x.earliest(1, 2, 0));
        x.dead(0, true);
        due("8 a relay less", -1, () -> x.earliest(2, 1, 0));
        x.dead(0, false);
        due("8 and again", 2, () -> x.earliest(2, 1, 0));
    }

    private static void late() {
        MoonRelay x = new MoonRelay();
        x.plane(1, 0, 1);
        x.post(0, 0, 1);
        x.post(5, 0, 1);
        due("9 least", 5, () -> x.late(0, 1, false));
        due("9 greatest", 36, () -> x.late(0, 1, true));
        due("9 both one, least", 0, () -> x.late(1, 1, false));
        due("9 both one, greatest", 0, () -> x.late(1, 1, true));
        x.dead(0, true);
        due("9 never, least", -1, () -> x.late(0, 1, false));
        due("9 never, greatest", -1, () -> x.late(0, 1, true));
        due("9 both one, nobody there", 0, () -> x.late(0, 0, false));
        due("9 from wrong", INDEX, () -> x.late(2, 0, true));
        due("9 to wrong", INDEX, () -> x.late(0, -1, true));
        MoonRelay ring = ring(8);
        ring.post(0, 0, 0);
        ring.post(16, 0, 0);
        due("9 all alike", 10, () -> ring.late(0, 1, false));
        due("9 all alike, greatest", 10, () -> ring.late(0, 1, true));
    }

    private static void meets() {
        MoonRelay x = new MoonRelay();
        x.post(0, 0, 0);
        due("10 nobody", 0, () -> x.meets(0));
        x.plane(1, 1, 1);
        due("10 once", 1, () -> x.meets(0));
        x.plane(1, 1, 2);
        due("10 an odd place, two at a time", 1, () -> x.meets(0));
        x.dead(1, true);
        x.plane(1, 0, 0);
        due("10 not the plane after", 1, () -> x.meets(0));
        x.post(0, 1, 8);
        due("10 always", 32, () -> x.meets(1));
        x.dead(2, true);
        due("10 by one relay in sight", 17, () -> x.meets(1));
        x.dead(0, true);
        due("10 all dead", 0, () -> x.meets(1));
        due("10 no post", INDEX, () -> x.meets(2));
        due("10 post below", INDEX, () -> x.meets(-1));
    }

    private static void part() {
        MoonRelay x = ring(8);
        x.post(0, 0, 8);
        x.post(16, 0, 8);
        due("11 a ring, and two that both see", 2, () -> x.part(0, 1, 0));
        x.post(8, 0, 8);
        due("11 three that both see, and round", 4, () -> x.part(0, 2, 9));
        due("11 both ways alike", 4, () -> x.part(2, 0, 9));
        x.dead(1, true);
        due("11 one of them dead", 3, () -> x.part(0, 2, 9));
        due("11 both one", -1, () -> x.part(1, 1, 0));
        for (int relay = 0; relay < 8; relay++) {
            x.dead(relay, true);
        }
        due("11 parted", 0, () -> x.part(0, 1, 0));
        due("11 tick below", ARGUMENT, () -> x.part(0, 0, -1));
        due("11 tick above", ARGUMENT, () -> x.part(0, 1, 100000001));
        due("11 from wrong", INDEX, () -> x.part(3, 0, -1));
        due("11 to wrong", INDEX, () -> x.part(0, -1, -1));
        MoonRelay moving = new MoonRelay();
        moving.plane(1, 0, 1);
        moving.post(0, 0, 0);
        moving.post(0, 0, 0);
        due("11 links that are there count, though none may be taken", 1, () -> moving.part(0, 1, 32));
        due("11 at another tick", 0, () -> moving.part(0, 1, 33));
    }

    private static void partGoesOverNoPost() {
        MoonRelay x = new MoonRelay();
        x.plane(1, 0, 0);
        x.plane(1, 8, 0);
        x.post(0, 0, 1);
        x.post(4, 0, 4);
        x.post(8, 1, 1);
        due("11 not over a post", 0, () -> x.part(0, 2, 0));
        due("11 by one", 1, () -> x.part(0, 1, 0));
    }

    private static void send() {
        MoonRelay x = ring(2);
        x.post(0, 0, 1);
        x.post(4, 0, 1);
        due("12 both one", ARGUMENT, () -> x.send(1, 1));
        due("12 from wrong", INDEX, () -> x.send(2, 2));
        due("12 to wrong", INDEX, () -> x.send(0, -1));
        for (int i = 0; i < 60; i++) {
            int due = i;
            due("12 letter " + i, due, () -> x.send(due % 2, 1 - due % 2));
        }
        due("12 a 61st", UNSUPPORTED, () -> x.send(0, 1));
        due("12 a 61st, both one", ARGUMENT, () -> x.send(0, 0));
        due("12 a 61st, no post", INDEX, () -> x.send(0, 2));
        x.steps(100);
        due("12 a 61st, all handed out", UNSUPPORTED, () -> x.send(0, 1));
        due("12 letters", 60, () -> x.count(5));
    }

    private static void steps() {
        MoonRelay x = new MoonRelay();
        due("13 none", 0, () -> x.steps(0));
        due("13 one", 1, () -> x.steps(1));
        due("13 a hundred", 101, () -> x.steps(100));
        due("13 101", ARGUMENT, () -> x.steps(101));
        due("13 below", ARGUMENT, () -> x.steps(-1));
        due("13 still", 101, () -> x.count(0));
    }

    /** Ways round both sides of a ring come alike: the relay of the least number is taken. */
    private static void stepsChooseTheLeastRelay() {
        MoonRelay x = ring(4);
        x.post(12, 0, 0);
        x.post(4, 0, 0);
        x.send(0, 1);
        x.steps(2);
        due("13 over relay 0, not 2", 0, () -> x.look(0, 1));
        x.send(0, 1);
        x.dead(0, true);
        due("13 lost over relay 0", 5, () -> x.look(0, 0));
        x.steps(2);
        due("13 over relay 2 when 0 is dead", 2, () -> x.look(1, 1));
        x.steps(4);
        due("13 there", 8, () -> x.look(1, 4));
    }

    /** The end is taken as soon as it can be, though relay 0 is of a lesser number. */
    private static void stepsTakeTheLinkToTheEnd() {
        MoonRelay x = ring(3);
        x.post(8, 0, 0);
        x.post(8, 0, 4);
        x.send(0, 1);
        x.steps(2);
        due("13 from relay 2 to the end", 4, () -> x.look(0, 0));
        due("13 two links", 2, () -> x.look(0, 2));
    }

    private static void stepsWaitForATakenLink() {
        MoonRelay x = ring(4);
        x.post(0, 0, 0);
        x.post(8, 0, 0);
        x.send(0, 1);
        x.send(0, 1);
        x.send(1, 0);
        x.steps(1);
        due("13 the first one is out", 1, () -> x.look(0, 0));
        due("13 the second one waits", 0, () -> x.look(1, 0));
        due("13 the other direction is free", 1, () -> x.look(2, 0));
        x.steps(1);
        due("13 the second one follows", 1, () -> x.look(1, 0));
        x.steps(1);
        due("13 a link of another step is free", 2, () -> x.look(1, 0));
        due("13 and it is the same link", 1, () -> x.look(1, 1));
        x.steps(4);
        due("13 the first one came", 6, () -> x.look(0, 4));
        due("13 the second one came", 7, () -> x.look(1, 4));
        due("13 that of the other direction came", 6, () -> x.look(2, 4));
    }

    /** Relay 1 has to be waited for; relay 0 is taken meanwhile, as one comes back in time. */
    private static void stepsMoveWhereWaitingIsNoWorse() {
        MoonRelay x = new MoonRelay();
        x.plane(2, 0, 0);
        x.plane(1, 20, -1);
        x.post(4, 0, 0);
        x.post(12, 2, 8);
        due("13 the way waits for plane 1", 16, () -> x.earliest(0, 1, 0));
        x.send(0, 1);
        x.steps(1);
        due("13 at relay 1", 1, () -> x.look(0, 1));
        x.steps(1);
        due("13 on the link to relay 0", 2, () -> x.look(0, 0));
        due("13 to relay 0", 0, () -> x.look(0, 1));
        x.steps(14);
        due("13 and in time all the same", 16, () -> x.look(0, 5));
    }

    private static void look() {
        MoonRelay x = ring(2);
        x.post(0, 0, 0);
        x.post(4, 0, 0);
        x.steps(3);
        x.send(0, 1);
        int[][] due = {
            {0, -1, 0, 3, -1, -1}, {1, 0, 1, 3, -1, -1}, {2, 1, 2, 3, -1, -1},
            {1, 1, 2, 3, -1, -1}, {4, -1, 3, 3, 7, 7}, {4, -1, 3, 3, 7, 7}};
        for (int step = 0; step < due.length; step++) {
            for (int what = 0; what < 6; what++) {
                int w = what;
                due("14 after " + step + " steps, what " + w, due[step][w], () -> x.look(0, w));
            }
            x.steps(1);
        }
        due("14 another what", ELEMENT, () -> x.look(0, 6));
        due("14 what below", ELEMENT, () -> x.look(0, -1));
        due("14 no letter", INDEX, () -> x.look(1, 6));
        due("14 letter below", INDEX, () -> x.look(-1, 0));
    }

    /** The first letter is held up by a death; the second one comes before it and waits for it. */
    private static void lookHandedOutInOrder() {
        MoonRelay x = twoRoads();
        x.send(0, 1);
        x.steps(2);
        due("14 the first is on its way to relay 1", 1, () -> x.look(0, 1));
        x.send(0, 1);
        x.send(2, 1);
        x.steps(1);
        due("14 the first is there", 1, () -> x.look(0, 0));
        x.dead(2, true);
        x.steps(9);
        due("14 the other came", 3, () -> x.look(1, 0));
        due("14 it is at no relay", -1, () -> x.look(1, 1));
        int came = x.look(1, 4);
        due("14 not handed out", -1, () -> x.look(1, 5));
        due("14 a letter of another post is", 4, () -> x.look(2, 0));
        x.steps(100);
        due("14 the first is handed out", 4, () -> x.look(0, 0));
        due("14 the second with it", x.look(0, 5), () -> x.look(1, 5));
        due("14 the tick it came stays", came, () -> x.look(1, 4));
        due("14 later than it came", true, () -> x.look(1, 5) > came);
    }

    /** A ring of 8, with posts at relay 0 and relay 4 and one at relay 5. */
    private static MoonRelay twoRoads() {
        MoonRelay x = ring(8);
        x.post(0, 0, 0);
        x.post(16, 0, 0);
        x.post(20, 0, 0);
        return x;
    }

    private static void lookLost() {
        MoonRelay x = twoRoads();
        x.send(0, 1);
        x.send(0, 2);
        x.steps(2);
        due("14 on the link", 2, () -> x.look(0, 0));
        x.dead(0, true);
        due("14 lost with the relay it left", 5, () -> x.look(0, 0));
        due("14 a lost one is nowhere", -1, () -> x.look(0, 1));
        due("14 the links it took stay", 2, () -> x.look(0, 2));
        due("14 never came", -1, () -> x.look(0, 4));
        due("14 never handed out", -1, () -> x.look(0, 5));
        x.dead(0, false);
        x.steps(50);
        due("14 stays lost", 5, () -> x.look(0, 0));
        MoonRelay y = twoRoads();
        y.send(0, 1);
        y.steps(2);
        y.dead(1, true);
        due("14 lost with the relay to which it goes", 5, () -> y.look(0, 0));
        y.send(0, 1);
        y.steps(1);
        y.dead(0, true);
        due("14 lost at the relay", 5, () -> y.look(1, 0));
        y.send(0, 1);
        y.steps(5);
        y.dead(7, true);
        due("14 not lost at its post", 0, () -> y.look(2, 0));
    }

    private static void lostLettersLetOthersOut() {
        MoonRelay x = twoRoads();
        x.send(0, 1);
        x.steps(3);
        x.dead(2, true);
        x.send(0, 1);
        x.steps(1);
        due("14 the first turns back", 0, () -> x.look(0, 1));
        x.steps(3);
        due("14 the second is ahead", 6, () -> x.look(1, 1));
        x.steps(6);
        due("14 the second came", 3, () -> x.look(1, 0));
        int now = x.count(0);
        int relay = x.look(0, 1);
        due("14 it waits for the first", true, () -> relay >= 0);
        x.dead(relay, true);
        due("14 the first is lost", 5, () -> x.look(0, 0));
        due("14 the second is handed out at once", 4, () -> x.look(1, 0));
        due("14 at that tick", now, () -> x.look(1, 5));
    }

    private static void count() {
        MoonRelay x = twoRoads();
        x.plane(8, 2, 0);
        x.plane(1, 0, 1);
        int[] before = {0, 3, 17, 0, 3, 0, 0, 0, 8 + 8 + 16 + 2};
        for (int what = 0; what < before.length; what++) {
            int w = what;
            due("15 before, what " + w, before[w], () -> x.count(w));
        }
        x.send(0, 1);
        x.send(2, 1);
        x.send(1, 2);
        x.steps(2);
        x.dead(x.look(0, 1), true);
        x.steps(20);
        x.dead(0, true);
        int[] after = {22, 3, 17, 2, 3, 3, 2, 1, (8 - 3) + 8 + (16 - 4) + 1};
        for (int what = 0; what < after.length; what++) {
            int w = what;
            due("15 after, what " + w, after[w], () -> x.count(w));
        }
        x.steps(2);
        due("15 links at another tick", 25 + 2, () -> x.count(8));
        due("15 another what", -1, () -> x.count(9));
        due("15 what below", -1, () -> x.count(-1));
        due("15 greatest", -1, () -> x.count(Integer.MAX_VALUE));
    }

    private static void throwingChangesNothing() {
        MoonRelay x = twoRoads();
        x.send(0, 1);
        x.steps(2);
        Check.answerOf(() -> x.plane(1, 0, 0));
        Check.answerOf(() -> x.post(0, 0, 0));
        Check.answerOf(() -> x.dead(8, true));
        Check.answerOf(() -> x.send(0, 0));
        Check.answerOf(() -> x.send(0, 3));
        Check.answerOf(() -> x.steps(101));
        int[] due = {2, 1, 8, 0, 3, 1, 0, 0, 8};
        for (int what = 0; what < due.length; what++) {
            int w = what;
            due("a call that throws changes nothing, what " + w, due[w], () -> x.count(w));
        }
        due("nor a letter", 2, () -> x.look(0, 0));
    }
}
