/** The edges that the document names for links that may be taken, EARLIEST, LATE, and TO PART two posts. */
public final class WayEdgesTest {
    private final Edges edges;

    private WayEdgesTest(Edges edges) {
        this.edges = edges;
    }

    public static void main(String[] args) throws Exception {
        Edges edges = new Edges();
        WayEdgesTest test = new WayEdgesTest(edges);
        test.thereAtOneTickOnly();
        test.thereAtTwoTicks();
        test.acrossAtTwoTicks();
        test.lengthsOfTheWay();
        test.overMidnight();
        test.deadForAllTicks();
        test.deadAsItIsNow();
        test.waiting();
        test.overRelaysAlone();
        test.never();
        test.roundByADay();
        test.beganLater();
        test.manyDays();
        test.theTickItself();
        test.leastAndGreatest();
        test.lateAsEarliestTells();
        test.lateNever();
        test.parted();
        test.partOfOne();
        test.mostToPart();
        test.narrowPlaces();
        test.partAtATick();
        edges.finish("WayEdgesTest");
    }

    private static final String TAKEN = "A link may be taken at tick t, if it is there at t and at each tick up to t"
            + " and its LENGTH; one is at its other end at t and LENGTH then.";

    private void thereAtOneTickOnly() {
        edges.says(TAKEN);
        MoonRelay x = Edges.hand();
        x.post(0, 0, 0);
        x.post(5, 0, 1);
        edges.due("seen", true, () -> x.sees(0, 0, 0));
        for (int tick = 0; tick < 32; tick++) {
            int at = tick;
            edges.due("there at one tick, from it at " + at, Edges.NONE, () -> x.earliest(0, 1, at));
            edges.due("there at one tick, to it at " + at, Edges.NONE, () -> x.earliest(1, 0, at));
        }
        MoonRelay fast = new MoonRelay();
        fast.plane(1, 0, 3);
        fast.post(0, 0, 1);
        fast.post(0, 0, 8);
        edges.due("there at three ticks", 3, () -> fast.meets(0));
        edges.due("but never at two in a row", Edges.NONE, () -> fast.earliest(0, 1, 0));
        edges.due("nor to it", Edges.NONE, () -> fast.earliest(1, 0, 0));
    }

    /** Speed 3 and sight 2: the relay is in sight at the ticks 0, 10, 11, 21, 22 of the day. */
    private void thereAtTwoTicks() {
        edges.says(TAKEN);
        MoonRelay x = new MoonRelay();
        x.plane(1, 0, 3);
        x.post(0, 0, 2);
        x.post(0, 0, 2);
        edges.due("from the first of two", 22, () -> x.earliest(0, 1, 10));
        edges.due("from before it", 22, () -> x.earliest(0, 1, 0));
        edges.due("from the second of two", 43, () -> x.earliest(0, 1, 11));
        edges.due("from the first of the other two", 43, () -> x.earliest(0, 1, 21));
        edges.due("from the second of the other two", 54, () -> x.earliest(0, 1, 22));
        MoonRelay slow = Edges.hand();
        slow.post(0, 0, 1);
        slow.post(5, 0, 1);
        edges.due("taken at the last tick but one", 5, () -> slow.earliest(0, 1, 0));
        edges.due("not at the last tick", 37, () -> slow.earliest(0, 1, 1));
        edges.due("nor later", 37, () -> slow.earliest(0, 1, 2));
        edges.due("back, at the last tick but one", 32, () -> slow.earliest(1, 0, 5));
        edges.due("back, at the last tick", 64, () -> slow.earliest(1, 0, 6));
    }

    /** Relay 1 comes to within 2 places of relay 0 at the ticks 0, 10, 11, 21, 22 of the day. */
    private void acrossAtTwoTicks() {
        edges.says(TAKEN);
        MoonRelay x = new MoonRelay();
        x.plane(1, 0, 0);
        x.plane(1, 0, 3);
        x.post(0, 0, 0);
        x.post(0, 2, 8);
        edges.due("a link at the first tick", 1, () -> x.link(0, 1, 0));
        edges.due("which is gone at the next one", 0, () -> x.link(0, 1, 1));
        edges.due("from the first tick", 12, () -> x.earliest(0, 1, 0));
        edges.due("just in time", 12, () -> x.earliest(0, 1, 9));
        edges.due("too late by one tick", 23, () -> x.earliest(0, 1, 10));
        edges.due("just in time for the other two", 23, () -> x.earliest(0, 1, 20));
        edges.due("too late for them", 44, () -> x.earliest(0, 1, 21));
    }

    private void lengthsOfTheWay() {
        edges.says(TAKEN);
        for (int relays = 1; relays <= 8; relays++) {
            for (int to = 0; to < relays; to++) {
                MoonRelay x = Edges.still(1, relays, 0);
                x.post(0, 0, 0);
                x.post(4 * to, 0, 0);
                int hops = relays >= 3 ? Math.min(to, relays - to) : to;
                edges.due("to relay " + to + " of " + relays, 2 + 2 * hops, () -> x.earliest(0, 1, 0));
                edges.due("back from relay " + to + " of " + relays, 2 + 2 * hops, () -> x.earliest(1, 0, 0));
            }
        }
        MoonRelay rows = Edges.still(6, 1, 0);
        for (int plane = 0; plane < 6; plane++) {
            rows.post(0, plane, 0);
        }
        for (int plane = 0; plane < 6; plane++) {
            int end = plane;
            // Both posts see the planes beside their own, so that the way starts and ends one plane nearer.
            int hops = Math.max(plane - 2, 0);
            edges.due("across to plane " + plane, plane == 0 ? 0 : 2 + hops, () -> rows.earliest(0, end, 0));
        }
    }

    private void overMidnight() {
        edges.says("(All goes round by 32 ticks.)");
        MoonRelay x = Edges.hand();
        x.post(31, 0, 1);
        x.post(1, 0, 1);
        edges.due("taken at tick 31, there at 0", 33, () -> x.earliest(0, 1, 31));
        edges.due("taken at tick 30", 33, () -> x.earliest(0, 1, 30));
        edges.due("too late at tick 32", 65, () -> x.earliest(0, 1, 32));
        edges.due("too late at tick 0", 33, () -> x.earliest(0, 1, 0));
        edges.due("at the last tick", Edges.LAST_TICK + 33, () -> x.earliest(0, 1, Edges.LAST_TICK));
        edges.due("at the last tick but one", Edges.LAST_TICK + 1, () -> x.earliest(0, 1, Edges.LAST_TICK - 1));
        edges.due("over the whole ring", 31, () -> x.earliest(1, 0, 0));
        MoonRelay back = new MoonRelay();
        back.plane(1, 0, -1);
        back.post(1, 0, 1);
        back.post(31, 0, 1);
        edges.due("backward, taken at tick 31", 33, () -> back.earliest(0, 1, 31));
        edges.due("backward, too late at tick 32", 65, () -> back.earliest(0, 1, 32));
    }

    private void deadForAllTicks() {
        edges.says("(Who is DEAD counts as it is now, for all ticks.)");
        MoonRelay x = Edges.still(1, 3, 0);
        x.post(0, 0, 0);
        x.post(8, 0, 0);
        x.steps(50);
        int[] ticks = {0, 49, 50, 51, Edges.LAST_TICK};
        for (int tick : ticks) {
            edges.due("none dead, at " + tick, tick + 4, () -> x.earliest(0, 1, tick));
        }
        x.dead(0, true);
        for (int tick : ticks) {
            edges.due("its relay dead, at " + tick, Edges.NONE, () -> x.earliest(0, 1, tick));
            edges.due("back, its relay dead, at " + tick, Edges.NONE, () -> x.earliest(1, 0, tick));
            edges.due("no link at " + tick, 0, () -> x.link(0, 1, tick));
            edges.due("not seen at " + tick, false, () -> x.sees(0, 0, tick));
            edges.due("parted at " + tick, 0, () -> x.part(0, 1, tick));
        }
        edges.due("meets nobody", 0, () -> x.meets(0));
        edges.due("late, never", Edges.NONE, () -> x.late(0, 1, true));
        x.dead(0, false);
        for (int tick : ticks) {
            edges.due("not dead again, at " + tick, tick + 4, () -> x.earliest(0, 1, tick));
        }
        edges.due("late again", 4, () -> x.late(0, 1, true));
    }

    /** What was answered once is not answered again when the sky is another one, however it came to be so. */
    private void deadAsItIsNow() {
        edges.says("(Who is DEAD counts as it is now, for all ticks.)");
        MoonRelay x = Edges.still(1, 1, 0);
        x.post(0, 0, 0);
        x.post(0, 0, 0);
        edges.due("at first", 2, () -> x.earliest(0, 1, 0));
        x.dead(0, true);
        x.plane(1, 16, 0);
        edges.due("one dead, one plane more", Edges.NONE, () -> x.earliest(0, 1, 0));
        x.dead(0, false);
        x.dead(1, true);
        edges.due("one lives, the other is dead", 2, () -> x.earliest(0, 1, 0));
        x.dead(0, true);
        x.post(0, 0, 8);
        edges.due("one dead, one post more", Edges.NONE, () -> x.late(0, 1, false));
        x.dead(0, false);
        x.dead(0, true);
        x.dead(0, false);
        edges.due("to and fro", 2, () -> x.late(0, 1, false));
    }

    private void waiting() {
        edges.says("One may wait anywhere.");
        MoonRelay x = Edges.hand();
        x.post(10, 0, 1);
        x.post(20, 0, 1);
        edges.due("at its post, and at the relay", 20, () -> x.earliest(0, 1, 0));
        edges.due("at the relay alone", 20, () -> x.earliest(0, 1, 10));
        edges.due("at its post for a day but two ticks", 52, () -> x.earliest(0, 1, 11));
        edges.due("at the relay for most of a day", 10 + 32, () -> x.earliest(1, 0, 20));
        MoonRelay y = Edges.hand();
        y.post(0, 0, 1);
        y.post(0, 0, 1);
        edges.due("first tick in sight: no wait at all", 33, () -> y.earliest(0, 1, 31));
        edges.due("second tick in sight: the relay is waited on for a day", 32, () -> y.earliest(0, 1, 0));
    }

    private void overRelaysAlone() {
        edges.says("A way goes over RELAYS alone, between two POSTS.");
        MoonRelay x = new MoonRelay();
        x.plane(1, 0, 0);
        x.plane(1, 8, 0);
        x.post(0, 0, 0);
        x.post(4, 0, 4);
        x.post(8, 1, 0);
        edges.due("to the post between", 2, () -> x.earliest(0, 1, 0));
        edges.due("on from the post between", 2, () -> x.earliest(1, 2, 0));
        edges.due("not over it", Edges.NONE, () -> x.earliest(0, 2, 0));
        edges.due("nor back", Edges.NONE, () -> x.earliest(2, 0, 0));
        edges.due("nor late", Edges.NONE, () -> x.late(0, 2, false));
        edges.due("and parted", 0, () -> x.part(0, 2, 0));
        MoonRelay near = Edges.still(1, 1, 20);
        near.post(0, 0, 8);
        near.post(0, 0, 8);
        edges.due("two posts side by side have no link", Edges.NONE, () -> near.earliest(0, 1, 0));
        edges.due("and are parted", 0, () -> near.part(0, 1, 0));
    }

    private void never() {
        edges.says("starting at that tick or later; none, if one can never.");
        MoonRelay x = new MoonRelay();
        x.post(0, 0, 8);
        x.post(0, 0, 8);
        edges.due("no relay", Edges.NONE, () -> x.earliest(0, 1, 0));
        x.plane(1, 9, 0);
        edges.due("no relay in sight", Edges.NONE, () -> x.earliest(0, 1, 0));
        x.plane(1, 8, 0);
        edges.due("one in sight", 2, () -> x.earliest(0, 1, 0));
        MoonRelay gap = new MoonRelay();
        gap.plane(8, 0, 0);
        gap.plane(1, 3, 0);
        gap.plane(8, 6, 0);
        gap.post(4, 0, 0);
        gap.post(6, 3, 0);
        edges.due("from plane to plane by one relay", 1 + 1 + 1 + 2 + 1, () -> gap.earliest(0, 1, 0));
        gap.dead(8, true);
        edges.due("no plane between", Edges.NONE, () -> gap.earliest(0, 1, 0));
        edges.due("no plane between, at the last tick", Edges.NONE, () -> gap.earliest(0, 1, Edges.LAST_TICK));
    }

    private void roundByADay() {
        edges.says("(All goes round by 32 ticks.)");
        MoonRelay x = turning();
        int last = Edges.LAST_TICK - 32;
        for (int tick = 0; tick < 32; tick++) {
            int at = tick;
            int first = x.earliest(0, 1, at);
            edges.due("a day later, from " + at, first + 32, () -> x.earliest(0, 1, at + 32));
            edges.due("as late as may be, from " + at, first + last, () -> x.earliest(0, 1, at + last));
            edges.due("to part, as late as may be, at " + at, x.part(0, 1, at), () -> x.part(0, 1, at + last));
            edges.due("over, a day later, at " + at, x.over(5, at), () -> x.over(5, at + 32));
            edges.due("link, a day later, at " + at, x.link(1, 5, at), () -> x.link(1, 5, at + 32));
        }
    }

    /** Planes that turn against one another, so that most answers differ by the tick. */
    private static MoonRelay turning() {
        MoonRelay x = new MoonRelay();
        x.plane(3, 0, 1);
        x.plane(3, 7, -1);
        x.plane(2, 13, 2);
        x.post(0, 0, 2);
        x.post(17, 3, 3);
        return x;
    }

    /** Skies that began so many ticks later: what is asked of a tick there is what the first one says of it. */
    private void beganLater() {
        edges.says("(All goes round by 32 ticks.)");
        int[][] phases = {{18, 13, 11, 8, 14, 10}, {0, 7, 13, 2, 9, 28}, {12, 15, 8, 14, 15, 0}, {5, 27, 18, 22, 23, 25}};
        int[][] speeds = {{-1, 0, 1, 0, 1, 0}, {1, -1, 2, 0, -2, -1}, {2, -1, 0, -3, 0, 3}, {-2, -1, -3, -1, 2, -2}};
        for (int sky = 0; sky < phases.length; sky++) {
            MoonRelay first = later(phases[sky], speeds[sky], 0);
            int[] there = new int[64];
            int[] back = new int[64];
            for (int tick = 0; tick < 64; tick++) {
                there[tick] = first.earliest(0, 1, tick);
                back[tick] = first.earliest(1, 0, tick);
            }
            int most = first.late(0, 1, true);
            edges.due("sky " + sky + " has a way", true, () -> most > 0);
            for (int by = 1; by < 32; by++) {
                MoonRelay x = later(phases[sky], speeds[sky], by);
                String told = "sky " + sky + " later by " + by;
                for (int tick = 0; tick < 32; tick++) {
                    int at = tick;
                    edges.due(told + ", from " + at, there[at + by] - by, () -> x.earliest(0, 1, at));
                    edges.due(told + ", back from " + at, back[at + by] - by, () -> x.earliest(1, 0, at));
                }
                edges.due(told + ", most", most, () -> x.late(0, 1, true));
            }
        }
    }

    private static MoonRelay later(int[] phases, int[] speeds, int by) {
        MoonRelay x = new MoonRelay();
        for (int plane = 0; plane < 6; plane++) {
            x.plane(1 + plane % 3 / 2, Math.floorMod(phases[plane] + by * speeds[plane], 32), speeds[plane]);
        }
        x.post(9, 0, 2);
        x.post(2, 5, 2);
        return x;
    }

    /** Six relays of which each is waited for most of a day. */
    private void manyDays() {
        edges.says("the least tick at which one can be there, starting at that tick or later");
        MoonRelay x = new MoonRelay();
        PlainRelay plain = new PlainRelay();
        int[] phases = {18, 13, 11, 8, 14, 10};
        for (int plane = 0; plane < 6; plane++) {
            int speed = plane == 0 ? -1 : plane % 2 == 1 ? 0 : 1;
            x.plane(1, phases[plane], speed);
            plain.plane(1, phases[plane], speed);
        }
        x.post(9, 0, 1);
        x.post(2, 5, 1);
        plain.post(9, 0, 1);
        plain.post(2, 5, 1);
        edges.due("more than five days", 170, () -> x.late(0, 1, true));
        edges.due("and more than four at least", 139, () -> x.late(0, 1, false));
        for (int tick = 0; tick < 32; tick++) {
            int at = tick;
            edges.due("from " + at, plain.earliest(0, 1, at), () -> x.earliest(0, 1, at));
            edges.due("back from " + at, plain.earliest(1, 0, at), () -> x.earliest(1, 0, at));
        }
    }

    private void theTickItself() {
        edges.says("EARLIEST; NONE (the tick itself, if both POSTS are one).");
        MoonRelay x = new MoonRelay();
        for (int post = 0; post < 8; post++) {
            x.post(0, 0, 0);
        }
        for (int post = 0; post < 8; post++) {
            int p = post;
            edges.due("post " + p + " at 0", 0, () -> x.earliest(p, p, 0));
            edges.due("post " + p + " at the last tick", Edges.LAST_TICK, () -> x.earliest(p, p, Edges.LAST_TICK));
            edges.due("post " + p + " before", Edges.ARGUMENT, () -> x.earliest(p, p, -1));
            edges.due("post " + p + " behind", Edges.ARGUMENT, () -> x.earliest(p, p, Edges.LAST_TICK + 1));
            edges.due("to another post", Edges.NONE, () -> x.earliest(p, (p + 1) % 8, 0));
        }
        edges.due("a post that is not there", Edges.INDEX, () -> x.earliest(8, 8, 0));
        edges.due("nor that", Edges.INDEX, () -> x.earliest(-1, -1, 0));
        x.plane(1, 0, 0);
        edges.due("though it could go out and come back", 7, () -> x.earliest(0, 0, 7));
    }

    private static final String LATE = "The least (most false) or the greatest LATE of the ticks 0 to 31; NONE,"
            + " if from one of them one can never come there (0 if both are one).";

    /** Turned by its phase, the best and the worst tick of the day come to be each of the ticks 0 to 31. */
    private void leastAndGreatest() {
        edges.says(LATE);
        for (int phase = 0; phase < 32; phase++) {
            MoonRelay x = new MoonRelay();
            x.plane(1, phase, 1);
            x.post(0, 0, 1);
            x.post(5, 0, 1);
            int best = (32 - phase) % 32;
            int worst = (33 - phase) % 32;
            edges.due("least, phase " + phase, 5, () -> x.late(0, 1, false));
            edges.due("greatest, phase " + phase, 36, () -> x.late(0, 1, true));
            edges.due("from its best tick", best + 5, () -> x.earliest(0, 1, best));
            edges.due("from its worst tick", worst + 36, () -> x.earliest(0, 1, worst));
        }
        MoonRelay still = Edges.still(1, 1, 0);
        still.post(0, 0, 0);
        still.post(0, 0, 0);
        edges.due("all ticks alike, least", 2, () -> still.late(0, 1, false));
        edges.due("all ticks alike, greatest", 2, () -> still.late(0, 1, true));
    }

    private void lateAsEarliestTells() {
        edges.says("LATE: EARLIEST less the tick.");
        MoonRelay x = turning();
        for (int from = 0; from < 2; from++) {
            int start = from;
            int end = 1 - from;
            int least = x.earliest(start, end, 0);
            int greatest = least;
            for (int tick = 1; tick < 32; tick++) {
                int late = x.earliest(start, end, tick) - tick;
                least = Math.min(least, late);
                greatest = Math.max(greatest, late);
            }
            edges.due("least of post " + start, least, () -> x.late(start, end, false));
            edges.due("greatest of post " + start, greatest, () -> x.late(start, end, true));
        }
        x.steps(13);
        edges.due("whatever tick it is now", x.late(0, 1, true), () -> {
            x.steps(100);
            return x.late(0, 1, true);
        });
    }

    private void lateNever() {
        edges.says(LATE);
        MoonRelay x = Edges.hand();
        x.post(0, 0, 0);
        x.post(5, 0, 1);
        edges.due("seen at one tick only, least", Edges.NONE, () -> x.late(0, 1, false));
        edges.due("seen at one tick only, greatest", Edges.NONE, () -> x.late(0, 1, true));
        edges.due("back, least", Edges.NONE, () -> x.late(1, 0, false));
        edges.due("back, greatest", Edges.NONE, () -> x.late(1, 0, true));
        for (int post = 0; post < 2; post++) {
            int p = post;
            edges.due("both one, least", 0, () -> x.late(p, p, false));
            edges.due("both one, greatest", 0, () -> x.late(p, p, true));
        }
        for (int wrong : new int[] {Edges.LEAST, -1, 2, Edges.GREATEST}) {
            edges.due("from " + wrong, Edges.INDEX, () -> x.late(wrong, 0, true));
            edges.due("to " + wrong, Edges.INDEX, () -> x.late(0, wrong, false));
            edges.due("both " + wrong, Edges.INDEX, () -> x.late(wrong, wrong, false));
        }
    }

    private static final String PART = "TO PART two POSTS at a tick (0, if they are parted; NONE, if both are one).";

    private void parted() {
        edges.says(PART);
        MoonRelay x = new MoonRelay();
        x.post(0, 0, 8);
        x.post(0, 0, 8);
        edges.due("no relay", 0, () -> x.part(0, 1, 0));
        x.plane(1, 16, 0);
        edges.due("none in sight", 0, () -> x.part(0, 1, 0));
        x.plane(1, 0, 0);
        edges.due("one in sight", 1, () -> x.part(0, 1, 0));
        x.dead(1, true);
        edges.due("which is dead", 0, () -> x.part(0, 1, 0));
        MoonRelay row = Edges.still(1, 5, 0);
        row.post(0, 0, 0);
        row.post(8, 0, 0);
        edges.due("a ring", 1, () -> row.part(0, 1, 0));
        row.dead(1, true);
        edges.due("a row", 1, () -> row.part(0, 1, 0));
        row.dead(4, true);
        edges.due("a row that is broken", 0, () -> row.part(0, 1, 0));
    }

    private void partOfOne() {
        edges.says(PART);
        MoonRelay x = Edges.still(1, 8, 0);
        x.post(0, 0, 8);
        x.post(0, 5, 8);
        edges.due("both one", Edges.NONE, () -> x.part(0, 0, 0));
        edges.due("both one that sees nobody", Edges.NONE, () -> x.part(1, 1, Edges.LAST_TICK));
        for (int wrong : new int[] {Edges.LEAST, -1, 2, Edges.GREATEST}) {
            edges.due("from " + wrong, Edges.INDEX, () -> x.part(wrong, 0, 0));
            edges.due("to " + wrong, Edges.INDEX, () -> x.part(0, wrong, 0));
            edges.due("both " + wrong, Edges.INDEX, () -> x.part(wrong, wrong, 0));
        }
    }

    /** Two posts that see the same 15 relays: each of these is a way of its own. */
    private void mostToPart() {
        edges.says("the least number of RELAYS that would have to be DEAD besides");
        MoonRelay x = Edges.still(6, 8, 0);
        x.post(0, 3, 8);
        x.post(0, 3, 8);
        int left = 15;
        edges.due("all that both see", 15, () -> x.part(0, 1, 0));
        for (int relay = 0; relay < 48; relay++) {
            boolean seen = x.sees(0, relay, 0);
            x.dead(relay, true);
            left -= seen ? 1 : 0;
            int due = left;
            edges.due("dead up to relay " + relay, due, () -> x.part(0, 1, 0));
        }
        MoonRelay wide = Edges.still(6, 8, 0);
        wide.post(0, 1, 8);
        wide.post(16, 4, 8);
        edges.due("fifteen seen by each, but planes of eight between", 8, () -> wide.part(0, 1, 0));
    }

    private void narrowPlaces() {
        edges.says("so that no row of links that are there at that tick leads from one to the other over RELAYS.");
        MoonRelay x = new MoonRelay();
        x.plane(8, 0, 0);
        x.plane(1, 0, 0);
        x.plane(8, 0, 0);
        x.post(16, 0, 8);
        x.post(16, 3, 8);
        edges.due("five seen by each, one between", 1, () -> x.part(0, 1, 0));
        edges.due("and back", 1, () -> x.part(1, 0, 0));
        x.dead(8, true);
        edges.due("none between", 0, () -> x.part(0, 1, 0));
        MoonRelay ring = Edges.still(1, 8, 0);
        ring.post(0, 0, 8);
        ring.post(16, 0, 4);
        edges.due("a ring is parted at two", 2, () -> ring.part(0, 1, 0));
        ring.post(16, 0, 0);
        edges.due("a post that sees one alone", 1, () -> ring.part(0, 2, 0));
        MoonRelay two = Edges.still(1, 2, 0);
        two.post(2, 0, 2);
        two.post(2, 0, 2);
        edges.due("both relays of a plane of two", 2, () -> two.part(0, 1, 0));
    }

    private void partAtATick() {
        edges.says("so that no row of links that are there at that tick leads from one to the other over RELAYS.");
        MoonRelay x = Edges.hand();
        x.post(0, 0, 0);
        x.post(0, 1, 0);
        for (int tick = 0; tick <= 64; tick++) {
            int at = tick;
            edges.due("there at one tick of the day, at " + at, at % 32 == 0 ? 1 : 0, () -> x.part(0, 1, at));
        }
        edges.due("at the last tick", 1, () -> x.part(0, 1, Edges.LAST_TICK));
        edges.due("at the last tick but one", 0, () -> x.part(0, 1, Edges.LAST_TICK - 1));
        edges.due("though no link may be taken", Edges.NONE, () -> x.earliest(0, 1, 0));
        MoonRelay y = Edges.hand();
        y.post(0, 0, 1);
        y.post(5, 0, 1);
        edges.due("never both at one tick", 0, () -> y.part(0, 1, 1));
        edges.due("though one comes there", 5, () -> y.earliest(0, 1, 0));
    }
}
