/** The edges that the document names for planes, relays, posts and the links between them. */
public final class SkyEdgesTest {
    private final Edges edges;

    private SkyEdgesTest(Edges edges) {
        this.edges = edges;
    }

    public static void main(String[] args) throws Exception {
        Edges edges = new Edges();
        SkyEdgesTest test = new SkyEdgesTest(edges);
        test.emptySky();
        test.objectsShareNothing();
        test.mostPlanes();
        test.numbersOfAPlane();
        test.placesOfRelays();
        test.numberedThrough();
        test.notDeadAtFirst();
        test.otherwise();
        test.mostPosts();
        test.numbersOfAPost();
        test.postBelowAPlaneToCome();
        test.ticksOfRelays();
        test.ticksOfWays();
        test.ringOfAPlane();
        test.noLinkOutOfTurn();
        test.acrossByPlaces();
        test.acrossAtATick();
        test.planesBeside();
        test.sightByPlaces();
        test.sightByPlanes();
        test.noneWithADeadRelay();
        test.bothWays();
        test.meetsNever();
        test.meetsAlways();
        test.meetsByTurning();
        edges.finish("SkyEdgesTest");
    }

    private void emptySky() {
        edges.says("An empty sky; NOW 0.");
        MoonRelay x = new MoonRelay();
        for (int what = 0; what <= 8; what++) {
            int w = what;
            edges.due("count " + w, 0, () -> x.count(w));
        }
        edges.due("no relay is over a place", Edges.INDEX, () -> x.over(0, 0));
        edges.due("none dies", Edges.INDEX, () -> x.dead(0, true));
        edges.due("none has a link", Edges.INDEX, () -> x.link(0, 0, 0));
        edges.due("no post sees", Edges.INDEX, () -> x.sees(0, 0, 0));
        edges.due("none is come to", Edges.INDEX, () -> x.earliest(0, 0, 0));
        edges.due("none is late", Edges.INDEX, () -> x.late(0, 0, false));
        edges.due("none meets", Edges.INDEX, () -> x.meets(0));
        edges.due("none is parted", Edges.INDEX, () -> x.part(0, 0, 0));
        edges.due("none sends", Edges.INDEX, () -> x.send(0, 0));
        edges.due("no letter", Edges.INDEX, () -> x.look(0, 0));
        edges.due("no step is NOW 0 still", 0, () -> x.steps(0));
        edges.due("first plane", 0, () -> x.plane(1, 0, 0));
        edges.due("first post", 0, () -> x.post(0, 0, 0));
    }

    private void objectsShareNothing() {
        edges.says("An empty sky; NOW 0.");
        MoonRelay old = Edges.still(2, 3, 0);
        old.post(0, 0, 0);
        old.post(4, 0, 0);
        old.dead(0, true);
        old.send(0, 1);
        old.steps(7);
        MoonRelay x = new MoonRelay();
        for (int what = 0; what <= 8; what++) {
            int w = what;
            edges.due("beside another object, count " + w, 0, () -> x.count(w));
        }
        x.plane(1, 0, 0);
        edges.due("the other object's relay is not dead here", false, () -> x.dead(0, false));
        edges.due("nor has the other one a relay less", 6, () -> old.count(2));
    }

    private void mostPlanes() {
        edges.says("PLANES (at most 6, numbered from 0 on, one beside the next one)");
        for (int relays = 1; relays <= 8; relays++) {
            int each = relays;
            MoonRelay x = new MoonRelay();
            for (int i = 0; i < 6; i++) {
                int number = i;
                edges.due("plane of " + each, number, () -> x.plane(each, 0, 0));
            }
            edges.due("a seventh of " + each, Edges.UNSUPPORTED, () -> x.plane(each, 0, 0));
            edges.due("planes", 6, () -> x.count(1));
            edges.due("relays", 6 * each, () -> x.count(2));
        }
        edges.says("IllegalArgumentException: a number is none; UnsupportedOperationException: there are 6.");
        MoonRelay full = Edges.still(6, 1, 0);
        edges.due("full, least numbers", Edges.UNSUPPORTED, () -> full.plane(1, 0, -3));
        edges.due("full, greatest numbers", Edges.UNSUPPORTED, () -> full.plane(8, 31, 3));
    }

    private void numbersOfAPlane() {
        edges.says("each with 1 to 8 RELAYS, a PHASE (0 to 31) and a SPEED (- 3 to 3)");
        int[] relays = {Edges.LEAST, -8, -1, 0, 1, 8, 9, 33, 257, Edges.GREATEST};
        int[] phases = {Edges.LEAST, -31, -1, 0, 31, 32, 256, Edges.GREATEST};
        int[] speeds = {Edges.LEAST, -4, -3, 0, 3, 4, 256, Edges.GREATEST};
        for (int r : relays) {
            for (int p : phases) {
                for (int s : speeds) {
                    boolean good = r >= 1 && r <= 8 && p >= 0 && p <= 31 && s >= -3 && s <= 3;
                    MoonRelay x = new MoonRelay();
                    edges.due("plane(" + r + ", " + p + ", " + s + ")", good ? (Object) 0 : Edges.ARGUMENT,
                            () -> x.plane(r, p, s));
                    edges.due("planes after plane(" + r + ", " + p + ", " + s + ")", good ? 1 : 0, () -> x.count(1));
                    edges.due("relays after plane(" + r + ", " + p + ", " + s + ")", good ? r : 0, () -> x.count(2));
                }
            }
        }
    }

    private void placesOfRelays() {
        edges.says("RELAY s of it is at tick t over PLACE 4 s, and PHASE, and SPEED times t, modulo 32");
        int[] phases = {0, 1, 30, 31};
        int[] ticks = {0, 1, 2, 10, 11, 31, 32, 33, 64, Edges.LAST_TICK - 1, Edges.LAST_TICK};
        for (int phase : phases) {
            for (int speed = -3; speed <= 3; speed++) {
                MoonRelay x = new MoonRelay();
                x.plane(8, phase, speed);
                for (int s = 0; s < 8; s++) {
                    for (int tick : ticks) {
                        int relay = s;
                        long far = 4L * s + phase + (long) speed * tick;
                        int due = (int) ((far % 32 + 32) % 32);
                        edges.due("phase " + phase + ", speed " + speed + ", relay " + s + " at " + tick, due,
                                () -> x.over(relay, tick));
                    }
                }
            }
        }
    }

    private void numberedThrough() {
        edges.says("RELAYS are numbered through all PLANES, in order (at most 48).");
        int[] sizes = {1, 8, 2, 7, 3, 6};
        MoonRelay x = new MoonRelay();
        int before = 0;
        for (int plane = 0; plane < sizes.length; plane++) {
            x.plane(sizes[plane], plane, 0);
            int first = before;
            int last = before + sizes[plane] - 1;
            int phase = plane;
            int end = phase + 4 * (sizes[plane] - 1);
            edges.due("the first relay of plane " + plane, phase, () -> x.over(first, 0));
            edges.due("the last relay of plane " + plane, end, () -> x.over(last, 0));
            edges.due("none behind it yet", Edges.INDEX, () -> x.over(last + 1, 0));
            before = last + 1;
        }
        MoonRelay full = Edges.still(6, 8, 3);
        edges.due("48", 48, () -> full.count(2));
        edges.due("the last one", 31, () -> full.over(47, 0));
        edges.due("no 49th", Edges.INDEX, () -> full.over(48, 0));
        edges.due("none before the first one", Edges.INDEX, () -> full.over(-1, 0));
    }

    private void notDeadAtFirst() {
        edges.says("A RELAY is DEAD or not (not, at first).");
        MoonRelay x = Edges.still(6, 8, 0);
        edges.due("none counted", 0, () -> x.count(3));
        for (int relay = 0; relay < 48; relay++) {
            int r = relay;
            edges.due("relay " + r, false, () -> x.dead(r, false));
        }
    }

    private void otherwise() {
        edges.says("A RELAY is DEAD, or not: whether it was otherwise.");
        MoonRelay x = Edges.still(6, 8, 0);
        for (int relay = 0; relay < 48; relay++) {
            int r = relay;
            edges.due("dead " + r, true, () -> x.dead(r, true));
            edges.due("dead already " + r, false, () -> x.dead(r, true));
            edges.due("counted " + r, r + 1, () -> x.count(3));
        }
        for (int relay = 0; relay < 48; relay++) {
            int r = relay;
            edges.due("not dead " + r, true, () -> x.dead(r, false));
            edges.due("not dead already " + r, false, () -> x.dead(r, false));
            edges.due("no more counted " + r, 47 - r, () -> x.count(3));
        }
        edges.due("a relay is there still", 48, () -> x.count(2));
        for (int wrong : new int[] {Edges.LEAST, -1, 48, 49, Edges.GREATEST}) {
            edges.due("dead " + wrong, Edges.INDEX, () -> x.dead(wrong, true));
            edges.due("not dead " + wrong, Edges.INDEX, () -> x.dead(wrong, false));
        }
        edges.due("none died by it", 0, () -> x.count(3));
    }

    private void mostPosts() {
        edges.says("POSTS (at most 8, numbered from 0 on)");
        MoonRelay x = new MoonRelay();
        for (int i = 0; i < 8; i++) {
            int number = i;
            edges.due("post", number, () -> x.post(7, 3, 4));
        }
        edges.due("a ninth", Edges.UNSUPPORTED, () -> x.post(7, 3, 4));
        edges.due("posts", 8, () -> x.count(4));
        edges.due("the last one", 0, () -> x.meets(7));
        edges.due("none behind it", Edges.INDEX, () -> x.meets(8));
        edges.says("IllegalArgumentException: a number is none; UnsupportedOperationException: there are 8.");
        edges.due("full, least numbers", Edges.UNSUPPORTED, () -> x.post(0, 0, 0));
        edges.due("full, greatest numbers", Edges.UNSUPPORTED, () -> x.post(31, 5, 8));
    }

    private void numbersOfAPost() {
        edges.says("a PLACE, a PLANE below which it lies (0 to 5), a SIGHT (0 to 8).");
        int[] places = {Edges.LEAST, -32, -1, 0, 31, 32, 256, Edges.GREATEST};
        int[] planes = {Edges.LEAST, -1, 0, 5, 6, 256, Edges.GREATEST};
        int[] sights = {Edges.LEAST, -8, -1, 0, 8, 9, 256, Edges.GREATEST};
        for (int p : places) {
            for (int l : planes) {
                for (int s : sights) {
                    boolean good = p >= 0 && p <= 31 && l >= 0 && l <= 5 && s >= 0 && s <= 8;
                    MoonRelay x = new MoonRelay();
                    edges.due("post(" + p + ", " + l + ", " + s + ")", good ? (Object) 0 : Edges.ARGUMENT,
                            () -> x.post(p, l, s));
                    edges.due("posts after post(" + p + ", " + l + ", " + s + ")", good ? 1 : 0, () -> x.count(4));
                }
            }
        }
    }

    /** The numbers 0 to 5 are planes to lie below, whether one is there already or not. */
    private void postBelowAPlaneToCome() {
        edges.says("a PLACE, a PLANE below which it lies (0 to 5), a SIGHT (0 to 8).");
        MoonRelay x = new MoonRelay();
        edges.due("below plane 5 of none", 0, () -> x.post(0, 5, 8));
        for (int plane = 0; plane < 6; plane++) {
            int relay = plane;
            x.plane(1, 0, 0);
            edges.due("plane " + plane + " came", plane >= 4, () -> x.sees(0, relay, 0));
            edges.due("meets with " + plane, plane >= 4 ? 32 : 0, () -> x.meets(0));
        }
    }

    private static final int[] TICKS = {Edges.LEAST, -32, -1, 0, 1, 31, 32, Edges.LAST_TICK - 1, Edges.LAST_TICK,
        Edges.LAST_TICK + 1, Edges.LAST_TICK + 32, Edges.GREATEST};

    private static boolean isTick(int tick) {
        return tick >= 0 && tick <= Edges.LAST_TICK;
    }

    /** Two relays that stand still, each over a post. */
    private static MoonRelay pair() {
        MoonRelay x = Edges.still(1, 2, 0);
        x.post(0, 0, 0);
        x.post(4, 0, 0);
        return x;
    }

    private void ticksOfRelays() {
        MoonRelay x = pair();
        edges.says("The PLACE of a RELAY at a tick. IllegalArgumentException: the tick is below 0, or above 100000000.");
        for (int tick : TICKS) {
            boolean good = isTick(tick);
            edges.due("over at " + tick, good ? (Object) 4 : Edges.ARGUMENT, () -> x.over(1, tick));
            edges.due("over at " + tick + ", no relay", Edges.INDEX, () -> x.over(2, tick));
        }
        edges.says("The LENGTH of the link between two RELAYS at a tick; 0 without one. IllegalArgumentException likewise.");
        for (int tick : TICKS) {
            boolean good = isTick(tick);
            edges.due("link at " + tick, good ? (Object) 2 : Edges.ARGUMENT, () -> x.link(0, 1, tick));
            edges.due("without one at " + tick, good ? (Object) 0 : Edges.ARGUMENT, () -> x.link(1, 1, tick));
        }
        edges.says("Whether there is a link between a POST and a RELAY at a tick. IllegalArgumentException likewise.");
        for (int tick : TICKS) {
            boolean good = isTick(tick);
            edges.due("sees at " + tick, good ? (Object) true : Edges.ARGUMENT, () -> x.sees(0, 0, tick));
            edges.due("sees not at " + tick, good ? (Object) false : Edges.ARGUMENT, () -> x.sees(0, 1, tick));
        }
    }

    private void ticksOfWays() {
        MoonRelay x = pair();
        edges.says("EARLIEST; NONE (the tick itself, if both POSTS are one). IllegalArgumentException likewise.");
        for (int tick : TICKS) {
            boolean good = isTick(tick);
            edges.due("earliest at " + tick, good ? (Object) (tick + 4) : Edges.ARGUMENT, () -> x.earliest(0, 1, tick));
            edges.due("to itself at " + tick, good ? (Object) tick : Edges.ARGUMENT, () -> x.earliest(1, 1, tick));
        }
        edges.says("NONE, if both are one). IllegalArgumentException likewise.");
        for (int tick : TICKS) {
            boolean good = isTick(tick);
            edges.due("part at " + tick, good ? (Object) 1 : Edges.ARGUMENT, () -> x.part(0, 1, tick));
            edges.due("part of one at " + tick, good ? (Object) Edges.NONE : Edges.ARGUMENT, () -> x.part(0, 0, tick));
        }
    }

    private void ringOfAPlane() {
        edges.says("next to one another by numbers (the last one and the first one, too, if there are 3 or more): LENGTH 2");
        for (int size = 1; size <= 8; size++) {
            MoonRelay x = new MoonRelay();
            x.plane(3, 0, 0);
            x.plane(size, 0, 1);
            for (int i = 0; i < size; i++) {
                for (int j = 0; j < size; j++) {
                    int a = 3 + i;
                    int b = 3 + j;
                    boolean ends = i == 0 && j == size - 1 || j == 0 && i == size - 1;
                    boolean next = i == j + 1 || j == i + 1 || size >= 3 && ends;
                    String told = i + " and " + j + " of " + size;
                    edges.due(told, next ? 2 : 0, () -> x.link(a, b, 0));
                    edges.due(told + " at the last tick", next ? 2 : 0, () -> x.link(a, b, Edges.LAST_TICK));
                }
            }
        }
    }

    /** Relays of one plane are next by their numbers alone, and those of two planes by places alone. */
    private void noLinkOutOfTurn() {
        edges.says("between RELAYS of one PLANE next to one another by numbers");
        MoonRelay x = new MoonRelay();
        x.plane(4, 0, 0);
        x.plane(4, 16, 0);
        edges.due("a dead one is not passed over", 0, () -> {
            x.dead(1, true);
            return x.link(0, 2, 0);
        });
        edges.due("the last of a plane and the first of the next one", 0, () -> x.link(3, 4, 0));
        edges.due("the first of a plane and the last of the next one", 0, () -> x.link(0, 7, 0));
        edges.due("a ring that has a dead one is a ring still", 2, () -> x.link(0, 3, 0));
        MoonRelay two = Edges.still(1, 2, 0);
        two.plane(8, 0, 0);
        edges.due("of two: both are last and first", 2, () -> two.link(0, 1, 0));
        edges.due("and one link only", 1 + 8 + 2, () -> two.count(8));
    }

    private void acrossByPlaces() {
        edges.says("between RELAYS of PLANES beside one another that are apart by 2 PLACES at most at that tick: LENGTH 1");
        for (int base = 0; base < 32; base += 31) {
            for (int phase = 0; phase < 32; phase++) {
                MoonRelay x = new MoonRelay();
                x.plane(1, base, 0);
                x.plane(1, phase, 0);
                int due = Edges.apart(base, phase) <= 2 ? 1 : 0;
                edges.due("places " + base + " and " + phase, due, () -> x.link(0, 1, 0));
                edges.due("places " + phase + " and " + base, due, () -> x.link(1, 0, 0));
                edges.due("counted, places " + base + " and " + phase, due, () -> x.count(8));
            }
        }
    }

    private void acrossAtATick() {
        edges.says("between RELAYS of PLANES beside one another that are apart by 2 PLACES at most at that tick: LENGTH 1");
        for (int speed = -3; speed <= 3; speed++) {
            MoonRelay x = new MoonRelay();
            x.plane(1, 5, speed);
            x.plane(1, 5, -3);
            for (int tick = 0; tick < 64; tick++) {
                int at = tick;
                int place = Math.floorMod(5 + speed * tick, 32);
                int other = Math.floorMod(5 - 3 * tick, 32);
                int due = Edges.apart(place, other) <= 2 ? 1 : 0;
                edges.due("speeds " + speed + " and -3 at " + tick, due, () -> x.link(0, 1, at));
                edges.due("a day's end on, at " + tick, due, () -> x.link(1, 0, Edges.LAST_TICK - 64 + at));
            }
        }
    }

    private void planesBeside() {
        edges.says("PLANES (at most 6, numbered from 0 on, one beside the next one)");
        MoonRelay x = Edges.still(6, 1, 9);
        for (int i = 0; i < 6; i++) {
            for (int j = 0; j < 6; j++) {
                int a = i;
                int b = j;
                boolean beside = i == j + 1 || j == i + 1;
                edges.due("planes " + i + " and " + j, beside ? 1 : 0, () -> x.link(a, b, 0));
            }
        }
        edges.due("five pairs, and no ring of planes", 5, () -> x.count(8));
    }

    private void sightByPlaces() {
        edges.says("apart by SIGHT at most at that tick: LENGTH 1.");
        edges.says("a ring of 32 PLACES, 0 to 31; apart by the lesser way around.");
        for (int sight = 0; sight <= 8; sight++) {
            for (int base = 0; base < 32; base += 31) {
                MoonRelay x = new MoonRelay();
                x.plane(1, 0, 1);
                x.post(base, 0, sight);
                for (int tick = 0; tick < 64; tick++) {
                    int at = tick;
                    boolean due = Edges.apart(base, tick % 32) <= sight;
                    edges.due("post " + base + ", sight " + sight + ", relay over " + tick % 32, due,
                            () -> x.sees(0, 0, at));
                }
            }
        }
    }

    private void sightByPlanes() {
        edges.says("between a POST and a RELAY of its PLANE, or of one beside it");
        MoonRelay x = Edges.still(6, 1, 31);
        for (int plane = 0; plane < 6; plane++) {
            x.post(31, plane, 0);
        }
        for (int plane = 0; plane < 6; plane++) {
            for (int relay = 0; relay < 6; relay++) {
                int p = plane;
                int r = relay;
                edges.due("post below " + p + ", relay of " + r, Math.abs(p - r) <= 1, () -> x.sees(p, r, 0));
            }
        }
    }

    private void noneWithADeadRelay() {
        edges.says("LINKS at a tick, both ways, none with a DEAD RELAY");
        MoonRelay x = Edges.still(2, 3, 0);
        x.post(0, 0, 8);
        for (int relay = 0; relay < 6; relay++) {
            int r = relay;
            int next = relay / 3 * 3 + (relay + 1) % 3;
            int beside = (relay + 3) % 6;
            x.dead(relay, true);
            edges.due("in its plane, from " + r, 0, () -> x.link(r, next, 0));
            edges.due("in its plane, to " + r, 0, () -> x.link(next, r, 0));
            edges.due("across, from " + r, 0, () -> x.link(r, beside, 0));
            edges.due("across, to " + r, 0, () -> x.link(beside, r, 0));
            edges.due("a post sees " + r, false, () -> x.sees(0, r, 0));
            edges.due("for all ticks", false, () -> x.sees(0, r, Edges.LAST_TICK));
            edges.due("counted without " + r, 9 - 3, () -> x.count(8));
            edges.due("it goes on over its places", 4 * (r % 3), () -> x.over(r, 0));
            x.dead(relay, false);
            edges.due("in its plane again", 2, () -> x.link(r, next, 0));
            edges.due("across again", 1, () -> x.link(beside, r, 0));
            edges.due("seen again", true, () -> x.sees(0, r, 0));
            edges.due("counted with " + r, 9, () -> x.count(8));
        }
        x.dead(0, true);
        x.dead(3, true);
        edges.due("both dead", 0, () -> x.link(0, 3, 0));
        x.dead(0, false);
        edges.due("one dead still", 0, () -> x.link(0, 3, 0));
    }

    private void bothWays() {
        edges.says("LINKS at a tick, both ways");
        MoonRelay x = new MoonRelay();
        x.plane(4, 3, 1);
        x.plane(4, 0, -2);
        x.plane(4, 9, 3);
        for (int tick = 0; tick < 3; tick++) {
            for (int a = 0; a < 12; a++) {
                for (int b = 0; b < a; b++) {
                    int i = a;
                    int j = b;
                    int at = 10 * tick;
                    edges.due(i + " and " + j + " at " + at, x.link(i, j, at), () -> x.link(j, i, at));
                }
            }
        }
    }

    private void meetsNever() {
        edges.says("MEETS: at how many of the 32 ticks a POST has a link.");
        MoonRelay x = new MoonRelay();
        x.post(0, 0, 8);
        edges.due("no relay", 0, () -> x.meets(0));
        x.plane(1, 9, 0);
        edges.due("out of sight by 1", 0, () -> x.meets(0));
        x.plane(1, 23, 0);
        edges.due("out of sight by 1 round the ring", 0, () -> x.meets(0));
        x.plane(8, 0, 0);
        edges.due("a plane too far", 0, () -> x.meets(0));
        x.post(16, 1, 8);
        edges.due("another post", 32, () -> x.meets(1));
        x.dead(0, true);
        x.dead(1, true);
        for (int relay = 2; relay < 10; relay++) {
            x.dead(relay, true);
        }
        edges.due("all dead", 0, () -> x.meets(1));
    }

    private void meetsAlways() {
        edges.says("MEETS: at how many of the 32 ticks a POST has a link.");
        MoonRelay x = new MoonRelay();
        x.plane(1, 8, 0);
        x.post(0, 0, 8);
        edges.due("at the edge of its sight", 32, () -> x.meets(0));
        x.plane(1, 24, 0);
        edges.due("two at a time count once", 32, () -> x.meets(0));
        x.dead(0, true);
        edges.due("by the other one", 32, () -> x.meets(0));
        MoonRelay ring = new MoonRelay();
        ring.plane(8, 0, 1);
        ring.post(31, 0, 2);
        ring.post(31, 0, 1);
        ring.post(31, 0, 0);
        edges.due("eight relays, sight 2", 32, () -> ring.meets(0));
        edges.due("eight relays, sight 1", 24, () -> ring.meets(1));
        edges.due("eight relays, sight 0", 8, () -> ring.meets(2));
        ring.dead(7, true);
        edges.due("seven relays, sight 0", 7, () -> ring.meets(2));
        ring.steps(77);
        edges.due("at whatever tick it is asked", 7, () -> ring.meets(2));
    }

    private void meetsByTurning() {
        edges.says("MEETS: at how many of the 32 ticks a POST has a link.");
        for (int sight = 0; sight <= 8; sight++) {
            for (int phase = 0; phase < 32; phase++) {
                int width = 2 * sight + 1;
                MoonRelay x = new MoonRelay();
                x.plane(1, phase, phase % 2 == 0 ? 1 : -3);
                x.post(0, 0, sight);
                edges.due("once round from " + phase + ", sight " + sight, width, () -> x.meets(0));
            }
            MoonRelay twice = new MoonRelay();
            twice.plane(1, 1, 2);
            twice.post(0, 0, sight);
            int odd = 2 * ((sight + 1) / 2);
            edges.due("twice round over odd places, sight " + sight, 2 * odd, () -> twice.meets(0));
        }
    }
}
