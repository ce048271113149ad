import java.util.Arrays;
import java.util.NoSuchElementException;

/**
 * Relays that circle in planes over ground posts, and the letters that go over them.
 *
 * The sky goes round by 32 ticks. So a set of ticks is held as the bits of one int (bit t: the tick
 * t of the day), and a look ahead by some ticks is a turn of these bits. Relays and posts are nodes
 * of one numbering: the relays first, the posts behind the room for all relays.
 */
public final class MoonRelay {
    public static final int NONE = -1;

    private static final int PLACES = 32;
    private static final int IN_THE_DAY = PLACES - 1;
    private static final int ALWAYS = -1;
    private static final int MOST_PLANES = 6;
    private static final int MOST_IN_PLANE = 8;
    private static final int MOST_RELAYS = MOST_PLANES * MOST_IN_PLANE;
    private static final int MOST_POSTS = 8;
    private static final int NODES = MOST_RELAYS + MOST_POSTS;
    private static final int MOST_LETTERS = 60;
    private static final int MOST_SPEED = 3;
    private static final int MOST_SIGHT = 8;
    private static final int MOST_STEPS = 100;
    private static final int LAST_TICK = 100000000;

    private static final int STEP_IN_PLANE = 4;
    private static final int RELAY_SIGHT = 2;
    private static final int LENGTH_IN_PLANE = 2;
    private static final int LENGTH_ACROSS = 1;
    private static final int LEAST_RING = 3;
    // The earliest way meets no node twice, and waits less than a day before each link.
    private static final int MOST_LATE = (MOST_RELAYS + 1) * (PLACES + LENGTH_IN_PLANE);

    private static final int AT_POST = 0;
    private static final int AT_RELAY = 1;
    private static final int ON_LINK = 2;
    private static final int AT_END = 3;
    private static final int HANDED_OUT = 4;
    private static final int LOST = 5;

    private final Sky sky;
    private final Ways[] waysTo;
    private final Cut cut;
    private final Mail mail;

    public MoonRelay() {
        sky = new Sky();
        waysTo = new Ways[MOST_POSTS];
        cut = new Cut(sky);
        mail = new Mail(sky, waysTo);
    }

    public int plane(int relays, int phase, int speed)
            throws IllegalStateException, IllegalArgumentException, UnsupportedOperationException {
        needNoLetter();
        needBetween(relays, 1, MOST_IN_PLANE);
        needBetween(phase, 0, PLACES - 1);
        needBetween(speed, -MOST_SPEED, MOST_SPEED);
        if (sky.planes >= MOST_PLANES) {
            throw new UnsupportedOperationException("there are 6 planes");
        }
        return sky.addPlane(relays, phase, speed);
    }

    public int post(int place, int plane, int sight)
            throws IllegalStateException, IllegalArgumentException, UnsupportedOperationException {
        needNoLetter();
        needBetween(place, 0, PLACES - 1);
        needBetween(plane, 0, MOST_PLANES - 1);
        needBetween(sight, 0, MOST_SIGHT);
        if (sky.posts >= MOST_POSTS) {
            throw new UnsupportedOperationException("there are 8 posts");
        }
        int post = sky.addPost(place, plane, sight);
        waysTo[post] = new Ways(sky, post);
        return post;
    }

    public int over(int relay, int tick) throws IndexOutOfBoundsException, IllegalArgumentException {
        needRelay(relay);
        needTick(tick);
        return sky.placeOf(relay, tick);
    }

    public boolean dead(int relay, boolean is) throws IndexOutOfBoundsException {
        needRelay(relay);
        boolean changed = sky.turnDead(relay, is);
        if (changed && is) {
            mail.lose(relay);
        }
        return changed;
    }

    public int link(int relay, int other, int tick) throws IndexOutOfBoundsException, IllegalArgumentException {
        needRelay(relay);
        needRelay(other);
        needTick(tick);
        return sky.isThere(relay, other, tick) ? sky.lengthOf(relay, other) : 0;
    }

    public boolean sees(int post, int relay, int tick) throws IndexOutOfBoundsException, IllegalArgumentException {
        needPost(post);
        needRelay(relay);
        needTick(tick);
        return sky.isThere(nodeOf(post), relay, tick);
    }

    public int earliest(int from, int to, int tick) throws IndexOutOfBoundsException, IllegalArgumentException {
        needPost(from);
        needPost(to);
        needTick(tick);
        if (from == to) {
            return tick;
        }
        waysTo[to].refresh();
        int lateness = waysTo[to].lateness(nodeOf(from), tick);
        return lateness == NONE ? NONE : tick + lateness;
    }

    public int late(int from, int to, boolean most) throws IndexOutOfBoundsException {
        needPost(from);
        needPost(to);
        if (from == to) {
            return 0;
        }
        waysTo[to].refresh();
        return waysTo[to].extreme(nodeOf(from), most);
    }

    public int meets(int post) throws IndexOutOfBoundsException {
        needPost(post);
        int ticks = 0;
        for (int relay = 0; relay < sky.relays; relay++) {
            ticks |= sky.ticksThere(nodeOf(post), relay);
        }
        return Integer.bitCount(ticks);
    }

    public int part(int from, int to, int tick) throws IndexOutOfBoundsException, IllegalArgumentException {
        needPost(from);
        needPost(to);
        needTick(tick);
        return from == to ? NONE : cut.size(nodeOf(from), nodeOf(to), tick);
    }

    public int send(int from, int to)
            throws IndexOutOfBoundsException, IllegalArgumentException, UnsupportedOperationException {
        needPost(from);
        needPost(to);
        if (from == to) {
            throw new IllegalArgumentException("both posts are one");
        }
        if (mail.letters >= MOST_LETTERS) {
            throw new UnsupportedOperationException("there are 60 letters");
        }
        return mail.accept(from, to);
    }

    public int steps(int n) throws IllegalArgumentException {
        needBetween(n, 0, MOST_STEPS);
        mail.run(n);
        return mail.now;
    }

    public int look(int letter, int what) throws IndexOutOfBoundsException, NoSuchElementException {
        if (letter < 0 || letter >= mail.letters) {
            throw new IndexOutOfBoundsException("no such letter");
        }
        Letter seen = mail.all[letter];
        switch (what) {
            case 0: return seen.state;
            case 1: return seen.relay();
            case 2: return seen.links;
            case 3: return seen.sentAt;
            case 4: return seen.cameAt;
            case 5: return seen.handedAt;
            default: throw new NoSuchElementException("nothing of a letter has this number");
        }
    }

    public int count(int what) {
        switch (what) {
            case 0: return mail.now;
            case 1: return sky.planes;
            case 2: return sky.relays;
            case 3: return sky.deadRelays();
            case 4: return sky.posts;
            case 5: return mail.letters;
            case 6: return mail.lettersThatAre(HANDED_OUT);
            case 7: return mail.lettersThatAre(LOST);
            case 8: return sky.linksOfRelays(mail.now);
            default: return NONE;
        }
    }

    private void needNoLetter() {
        if (mail.letters > 0) {
            throw new IllegalStateException("there is a letter");
        }
    }

    private void needRelay(int relay) {
        if (relay < 0 || relay >= sky.relays) {
            throw new IndexOutOfBoundsException("no such relay");
        }
    }

    private void needPost(int post) {
        if (post < 0 || post >= sky.posts) {
            throw new IndexOutOfBoundsException("no such post");
        }
    }

    private static void needTick(int tick) {
        needBetween(tick, 0, LAST_TICK);
    }

    private static void needBetween(int number, int least, int most) {
        if (number < least || number > most) {
            throw new IllegalArgumentException("a number is none");
        }
    }

    private static int nodeOf(int post) {
        return MOST_RELAYS + post;
    }

    private static boolean isRelay(int node) {
        return node < MOST_RELAYS;
    }

    private static long bit(int node) {
        return 1L << node;
    }

    /** The ticks of the day that lie so many before the given ones. */
    private static int ahead(int ticks, int by) {
        return (ticks >>> by) | (ticks << (PLACES - by));
    }

    /** Where relays and posts are, who is dead, and at which ticks of the day which links are there. */
    private static final class Sky {
        int planes;
        int relays;
        int posts;
        // Whoever keeps what was reckoned from the sky sees by this number that it is old.
        int changes;
        // By node: it is there, and not dead.
        private final boolean[] up = new boolean[NODES];
        // The entry behind a plane is where it ends; planes that are not there begin and end at the last relay.
        private final int[] firstRelay = new int[MOST_PLANES + 1];
        private final int[] planeOf = new int[NODES];
        private final int[] placeAtFirst = new int[NODES];
        private final int[] speedOf = new int[NODES];
        private final int[] sightOf = new int[NODES];
        // Both by node and relay, as if nobody were dead: so the dead cost no reckoning of places.
        private final int[] there = new int[NODES * MOST_RELAYS];
        private final int[] takeable = new int[NODES * MOST_RELAYS];

        int addPlane(int number, int phase, int speed) {
            int plane = planes;
            int first = relays;
            for (int s = 0; s < number; s++) {
                placeNode(first + s, STEP_IN_PLANE * s + phase, plane, RELAY_SIGHT);
                speedOf[first + s] = speed;
            }
            planes = plane + 1;
            relays = first + number;
            for (int later = planes; later <= MOST_PLANES; later++) {
                firstRelay[later] = relays;
            }
            for (int relay = first; relay < relays; relay++) {
                tieToRelays(relay);
                tieToPosts(relay);
            }
            changes++;
            return plane;
        }

        int addPost(int place, int plane, int sight) {
            int post = posts;
            placeNode(nodeOf(post), place, plane, sight);
            posts = post + 1;
            for (int relay = 0; relay < relays; relay++) {
                tie(nodeOf(post), relay);
            }
            changes++;
            return post;
        }

        private void placeNode(int node, int place, int plane, int sight) {
            placeAtFirst[node] = place;
            planeOf[node] = plane;
            sightOf[node] = sight;
            up[node] = true;
        }

        /** Whether it was otherwise. */
        boolean turnDead(int relay, boolean is) {
            if (up[relay] != is) {
                return false;
            }
            up[relay] = !is;
            changes++;
            return true;
        }

        private void tieToRelays(int relay) {
            for (int other = 0; other < relay; other++) {
                tie(relay, other);
                tie(other, relay);
            }
        }

        private void tieToPosts(int relay) {
            for (int post = 0; post < posts; post++) {
                tie(nodeOf(post), relay);
            }
        }

        private void tie(int node, int relay) {
            int ticks = reckonTicks(node, relay);
            int index = node * MOST_RELAYS + relay;
            there[index] = ticks;
            takeable[index] = ticks & ahead(ticks, 1);
            if (lengthOf(node, relay) == LENGTH_IN_PLANE) {
                takeable[index] &= ahead(ticks, 2);
            }
        }

        private int reckonTicks(int node, int relay) {
            int across = planeOf[node] - planeOf[relay];
            if (across < -1 || across > 1) {
                return 0;
            }
            if (across == 0 && isRelay(node)) {
                return areNext(node, relay) ? ALWAYS : 0;
            }
            int ticks = 0;
            for (int tick = 0; tick < PLACES; tick++) {
                if (apart(placeOf(node, tick), placeOf(relay, tick)) <= sightOf[node]) {
                    ticks |= 1 << tick;
                }
            }
            return ticks;
        }

        private boolean areNext(int relay, int other) {
            int distance = Math.abs(relay - other);
            int plane = planeOf[relay];
            int size = firstRelay[plane + 1] - firstRelay[plane];
            return distance == 1 || (size >= LEAST_RING && distance == size - 1);
        }

        private static int apart(int place, int other) {
            int oneWay = Math.abs(place - other);
            return Math.min(oneWay, PLACES - oneWay);
        }

        int placeOf(int node, int tick) {
            return Math.floorMod(placeAtFirst[node] + speedOf[node] * tick, PLACES);
        }

        int lengthOf(int node, int other) {
            boolean inPlane = isRelay(node) && isRelay(other) && planeOf[node] == planeOf[other];
            return inPlane ? LENGTH_IN_PLANE : LENGTH_ACROSS;
        }

        boolean isUp(int node) {
            return up[node];
        }

        int ticksThere(int node, int relay) {
            return up[node] && up[relay] ? there[node * MOST_RELAYS + relay] : 0;
        }

        /** The ticks of the day at which the link may be taken, from either end. */
        int ticksToTake(int node, int relay) {
            return up[node] && up[relay] ? takeable[node * MOST_RELAYS + relay] : 0;
        }

        boolean isThere(int node, int relay, int tick) {
            return (ticksThere(node, relay) >>> (tick & IN_THE_DAY) & 1) != 0;
        }

        /** No relay below this one has a link with the node. */
        int nearFrom(int node) {
            return firstRelay[Math.max(planeOf[node] - 1, 0)];
        }

        /** Nor has this relay, or one above it. */
        int nearTo(int node) {
            return firstRelay[Math.min(planeOf[node] + 2, MOST_PLANES)];
        }

        int deadRelays() {
            int number = 0;
            for (int relay = 0; relay < relays; relay++) {
                if (!up[relay]) {
                    number++;
                }
            }
            return number;
        }

        int linksOfRelays(int tick) {
            int number = 0;
            for (int relay = 0; relay < relays; relay++) {
                for (int other = relay + 1; other < nearTo(relay); other++) {
                    if (isThere(relay, other, tick)) {
                        number++;
                    }
                }
            }
            return number;
        }
    }

    /** How late one comes to one post, from every node at every tick of the day. */
    private static final class Ways {
        private final Sky sky;
        private final int end;
        private final int[] lateFrom = new int[NODES * PLACES];
        private int reckonedAt = NONE;
        // By node, the ticks of the day from which the end is reached within so many ticks, within one
        // tick less, and room for one tick more.
        private int[] within = new int[NODES];
        private int[] sooner = new int[NODES];
        private int[] grown = new int[NODES];

        Ways(Sky sky, int post) {
            this.sky = sky;
            this.end = nodeOf(post);
        }

        /** Reckons anew only if the sky has changed: most calls come without a change. */
        void refresh() {
            if (reckonedAt == sky.changes) {
                return;
            }
            Arrays.fill(lateFrom, NONE);
            Arrays.fill(within, 0);
            Arrays.fill(sooner, 0);
            int still = 0;
            // A link looks back by its length, so that only so many quiet ticks in a row mean that nothing comes.
            for (int ticks = 1; ticks <= MOST_LATE && still < LENGTH_IN_PLANE; ticks++) {
                still = grow(ticks) ? 0 : still + 1;
            }
            reckonedAt = sky.changes;
        }

        int lateness(int node, int tick) {
            return lateFrom[node * PLACES + (tick & IN_THE_DAY)];
        }

        int extreme(int node, boolean most) {
            int found = lateness(node, 0);
            for (int tick = 0; tick < PLACES; tick++) {
                int lateness = lateness(node, tick);
                if (lateness == NONE) {
                    return NONE;
                }
                found = most ? Math.max(found, lateness) : Math.min(found, lateness);
            }
            return found;
        }

        private boolean grow(int ticks) {
            boolean more = false;
            for (int node = 0; node < NODES; node++) {
                int old = within[node];
                int all = old;
                if (old != ALWAYS && node != end && sky.isUp(node)) {
                    all = old | ahead(old, 1) | overLinks(node);
                }
                grown[node] = all;
                if (all != old) {
                    note(node, all & ~old, ticks);
                    more = true;
                }
            }
            int[] spare = sooner;
            sooner = within;
            within = grown;
            grown = spare;
            return more;
        }

        private int overLinks(int node) {
            int found = isRelay(node) ? sky.ticksToTake(end, node) : 0;
            int last = sky.nearTo(node);
            for (int relay = sky.nearFrom(node); relay < last; relay++) {
                if (within[relay] == 0) {
                    continue;
                }
                int taken = sky.ticksToTake(node, relay);
                if (taken != 0) {
                    found |= taken & (sky.lengthOf(node, relay) == LENGTH_IN_PLANE
                            ? ahead(sooner[relay], LENGTH_IN_PLANE) : ahead(within[relay], LENGTH_ACROSS));
                }
            }
            return found;
        }

        private void note(int node, int fresh, int ticks) {
            for (int tick = 0; tick < PLACES; tick++) {
                if ((fresh >>> tick & 1) != 0) {
                    lateFrom[node * PLACES + tick] = ticks;
                }
            }
        }
    }

    /**
     * How few relays part two posts at a tick: as many as there are ways that share no relay. Each relay
     * has two doors, in and out, so that a way that is changed can leave a relay by the door it came to.
     */
    private static final class Cut {
        private static final int DOORS = 2 * MOST_RELAYS;
        private static final int FROM_START = -2;

        private final Sky sky;
        private final long[] near = new long[MOST_RELAYS];
        private final long[] flow = new long[MOST_RELAYS];
        private long used;
        private final int[] cameFrom = new int[DOORS];
        private final int[] queue = new int[DOORS];
        private int queued;

        Cut(Sky sky) {
            this.sky = sky;
        }

        int size(int from, int to, int tick) {
            for (int relay = 0; relay < sky.relays; relay++) {
                near[relay] = relaysNear(relay, tick);
                flow[relay] = 0;
            }
            used = 0;
            long starts = relaysNear(from, tick);
            long ends = relaysNear(to, tick);
            for (int ways = 0; ways < MOST_RELAYS; ways++) {
                int last = search(starts, ends);
                if (last == NONE) {
                    return ways;
                }
                addWay(last);
            }
            return MOST_RELAYS;
        }

        private long relaysNear(int node, int tick) {
            long found = 0;
            int last = sky.nearTo(node);
            for (int relay = sky.nearFrom(node); relay < last; relay++) {
                if (sky.isThere(node, relay, tick)) {
                    found |= bit(relay);
                }
            }
            return found;
        }

        /** The door out of which one more way comes to the end, NONE if there is none. */
        private int search(long starts, long ends) {
            Arrays.fill(cameFrom, NONE);
            queued = 0;
            for (int relay = 0; relay < sky.relays; relay++) {
                if ((starts & bit(relay)) != 0) {
                    enter(doorIn(relay), FROM_START);
                }
            }
            // Each door is queued once only, so the queue has an end.
            for (int i = 0; i < queued && i < DOORS; i++) {
                int door = queue[i];
                if (isOut(door) && (ends & bit(relayOf(door))) != 0) {
                    return door;
                }
                if (isOut(door)) {
                    goOnFromOut(door);
                } else {
                    goOnFromIn(door);
                }
            }
            return NONE;
        }

        private void goOnFromIn(int door) {
            int relay = relayOf(door);
            if ((used & bit(relay)) == 0) {
                enter(doorOut(relay), door);
                return;
            }
            for (int other = 0; other < sky.relays; other++) {
                if ((flow[other] & bit(relay)) != 0) {
                    enter(doorOut(other), door);
                }
            }
        }

        private void goOnFromOut(int door) {
            int relay = relayOf(door);
            if ((used & bit(relay)) != 0) {
                enter(doorIn(relay), door);
            }
            for (int other = 0; other < sky.relays; other++) {
                if ((near[relay] & bit(other)) != 0) {
                    enter(doorIn(other), door);
                }
            }
        }

        private void enter(int door, int by) {
            if (cameFrom[door] == NONE && queued < DOORS) {
                cameFrom[door] = by;
                queue[queued] = door;
                queued++;
            }
        }

        private void addWay(int last) {
            int door = last;
            for (int i = 0; i < DOORS && cameFrom[door] >= 0; i++) {
                int before = cameFrom[door];
                int relay = relayOf(door);
                int other = relayOf(before);
                if (relay == other) {
                    used ^= bit(relay);
                } else if (isOut(before)) {
                    flow[other] |= bit(relay);
                } else {
                    flow[relay] &= ~bit(other);
                }
                door = before;
            }
        }

        private static int doorIn(int relay) {
            return 2 * relay;
        }

        private static int doorOut(int relay) {
            return 2 * relay + 1;
        }

        private static boolean isOut(int door) {
            return (door & 1) != 0;
        }

        private static int relayOf(int door) {
            return door >> 1;
        }
    }

    private static final class Letter {
        final int from;
        final int to;
        final int sentAt;
        int state = AT_POST;
        // Where it is; on a link: where it took it, to which node it goes, and when it is there.
        int node;
        int next = NONE;
        int throughAt = NONE;
        int links;
        int cameAt = NONE;
        int handedAt = NONE;

        Letter(int from, int to, int sentAt) {
            this.from = from;
            this.to = to;
            this.sentAt = sentAt;
            this.node = nodeOf(from);
        }

        boolean mayGo() {
            return state == AT_POST || state == AT_RELAY;
        }

        boolean isSettled() {
            return state == HANDED_OUT || state == LOST;
        }

        int relay() {
            int place = state == ON_LINK ? next : node;
            boolean atRelay = (state == AT_RELAY || state == ON_LINK) && isRelay(place);
            return atRelay ? place : NONE;
        }

        boolean hangsOn(int relay) {
            return (state == AT_RELAY && node == relay) || (state == ON_LINK && (node == relay || next == relay));
        }

        void take(int to, int tick) {
            state = ON_LINK;
            next = to;
            throughAt = tick;
            links++;
        }

        void arrive(int tick) {
            node = next;
            if (isRelay(node)) {
                state = AT_RELAY;
            } else {
                state = AT_END;
                cameAt = tick;
            }
        }
    }

    /** The letters, and the steps in which they go. */
    private static final class Mail {
        int now;
        int letters;
        final Letter[] all = new Letter[MOST_LETTERS];
        private final Sky sky;
        private final Ways[] waysTo;
        // By node, the nodes to which a letter has taken the link at this step.
        private final long[] takenTo = new long[NODES];
        // By the post from which, the posts to which a letter of a lesser number is still to come.
        private final int[] awaited = new int[MOST_POSTS];

        Mail(Sky sky, Ways[] waysTo) {
            this.sky = sky;
            this.waysTo = waysTo;
        }

        int accept(int from, int to) {
            int number = letters;
            all[number] = new Letter(from, to, now);
            letters = number + 1;
            return number;
        }

        void run(int steps) {
            // Nobody dies between the steps of one call, so once is enough.
            for (int i = 0; i < letters; i++) {
                if (!all[i].isSettled()) {
                    waysTo[all[i].to].refresh();
                }
            }
            for (int i = 0; i < steps; i++) {
                step();
            }
        }

        private void step() {
            Arrays.fill(takenTo, 0L);
            for (int i = 0; i < letters; i++) {
                if (all[i].mayGo()) {
                    setOut(all[i]);
                }
            }
            now++;
            boolean came = false;
            for (int i = 0; i < letters; i++) {
                if (all[i].state == ON_LINK && all[i].throughAt <= now) {
                    all[i].arrive(now);
                    came = true;
                }
            }
            if (came) {
                handOut();
            }
        }

        private void setOut(Letter letter) {
            int next = choose(letter);
            if (next == NONE || (takenTo[letter.node] & bit(next)) != 0) {
                return;
            }
            takenTo[letter.node] |= bit(next);
            letter.take(next, now + sky.lengthOf(letter.node, next));
        }

        /** The node to which the letter wants to go now, NONE if it waits. */
        private int choose(Letter letter) {
            Ways ways = waysTo[letter.to];
            int node = letter.node;
            int lateness = ways.lateness(node, now);
            if (lateness == NONE) {
                return NONE;
            }
            if (isRelay(node) && isNow(sky.ticksToTake(nodeOf(letter.to), node))) {
                return nodeOf(letter.to);
            }
            int last = sky.nearTo(node);
            for (int relay = sky.nearFrom(node); relay < last; relay++) {
                if (isNow(sky.ticksToTake(node, relay))) {
                    int length = sky.lengthOf(node, relay);
                    int rest = ways.lateness(relay, now + length);
                    if (rest != NONE && length + rest == lateness) {
                        return relay;
                    }
                }
            }
            return NONE;
        }

        private boolean isNow(int ticks) {
            return (ticks >>> (now & IN_THE_DAY) & 1) != 0;
        }

        void lose(int relay) {
            for (int i = 0; i < letters; i++) {
                if (all[i].hangsOn(relay)) {
                    all[i].state = LOST;
                }
            }
            handOut();
        }

        private void handOut() {
            Arrays.fill(awaited, 0);
            for (int i = 0; i < letters; i++) {
                Letter letter = all[i];
                boolean isNext = (awaited[letter.from] >>> letter.to & 1) == 0;
                if (letter.state == AT_END && isNext) {
                    letter.state = HANDED_OUT;
                    letter.handedAt = now;
                } else if (!letter.isSettled()) {
                    awaited[letter.from] |= 1 << letter.to;
                }
            }
        }

        int lettersThatAre(int state) {
            int number = 0;
            for (int i = 0; i < letters; i++) {
                if (all[i].state == state) {
                    number++;
                }
            }
            return number;
        }
    }
}
