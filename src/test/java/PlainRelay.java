import java.util.ArrayList;
import java.util.Arrays;
import java.util.List;
import java.util.NoSuchElementException;

/**
 * The document's words once more, as slowly and plainly as they are told: nothing is kept, every link is
 * looked at tick by tick. MoonRelay is held against it.
 */
final class PlainRelay {
    private static final int HORIZON = 2000;

    /** A relay or a post. */
    private static final class Thing {
        boolean relay;
        int number;
        int plane;
        int inPlane;
        int place;
        int speed;
        int sight;
        boolean dead;

        int placeAt(long tick) {
            return (int) Math.floorMod(place + (long) speed * tick, 32L);
        }
    }

    private static final class Note {
        int from;
        int to;
        Thing at;
        Thing goesTo;
        int arrives;
        int links;
        int sent;
        int came = -1;
        int handed = -1;
        boolean lost;

        boolean settled() {
            return lost || handed >= 0;
        }
    }

    private final List<Integer> sizes = new ArrayList<>();
    private final List<Thing> relays = new ArrayList<>();
    private final List<Thing> posts = new ArrayList<>();
    private final List<Note> notes = new ArrayList<>();
    private int now;

    int plane(int number, int phase, int speed) {
        if (!notes.isEmpty()) throw new IllegalStateException();
        if (number < 1 || number > 8 || phase < 0 || phase > 31 || speed < -3 || speed > 3) {
            throw new IllegalArgumentException();
        }
        if (sizes.size() == 6) throw new UnsupportedOperationException();
        for (int s = 0; s < number; s++) {
            Thing t = new Thing();
            t.relay = true;
            t.number = relays.size();
            t.plane = sizes.size();
            t.inPlane = s;
            t.place = 4 * s + phase;
            t.speed = speed;
            relays.add(t);
        }
        sizes.add(number);
        return sizes.size() - 1;
    }

    int post(int place, int plane, int sight) {
        if (!notes.isEmpty()) throw new IllegalStateException();
        if (place < 0 || place > 31 || plane < 0 || plane > 5 || sight < 0 || sight > 8) {
            throw new IllegalArgumentException();
        }
        if (posts.size() == 8) throw new UnsupportedOperationException();
        Thing t = new Thing();
        t.number = posts.size();
        t.plane = plane;
        t.place = place;
        t.sight = sight;
        posts.add(t);
        return t.number;
    }

    private Thing relay(int n) {
        if (n < 0 || n >= relays.size()) throw new IndexOutOfBoundsException();
        return relays.get(n);
    }

    private Thing post(int n) {
        if (n < 0 || n >= posts.size()) throw new IndexOutOfBoundsException();
        return posts.get(n);
    }

    private static void tick(int t) {
        if (t < 0 || t > 100000000) throw new IllegalArgumentException();
    }

    int over(int r, int t) {
        Thing x = relay(r);
        tick(t);
        return x.placeAt(t);
    }

    boolean dead(int r, boolean is) {
        Thing x = relay(r);
        boolean changed = x.dead != is;
        x.dead = is;
        if (changed && is) {
            for (Note n : notes) {
                if (n.came < 0 && (n.at == x || n.goesTo == x)) n.lost = true;
            }
            handOut();
        }
        return changed;
    }

    private int length(Thing a, Thing b, long t) {
        if (a == b || a.dead || b.dead || !a.relay && !b.relay) return 0;
        int d = Math.abs(a.placeAt(t) - b.placeAt(t));
        int apart = d > 16 ? 32 - d : d;
        int across = Math.abs(a.plane - b.plane);
        if (!a.relay || !b.relay) {
            return across <= 1 && apart <= (a.relay ? b : a).sight ? 1 : 0;
        }
        if (across == 1) return apart <= 2 ? 1 : 0;
        if (across != 0) return 0;
        int size = sizes.get(a.plane);
        int low = Math.min(a.inPlane, b.inPlane);
        int high = Math.max(a.inPlane, b.inPlane);
        return high == low + 1 || size >= 3 && low == 0 && high == size - 1 ? 2 : 0;
    }

    /** The length of a link that may be taken, 0 otherwise. */
    private int takes(Thing a, Thing b, long t) {
        int length = length(a, b, t);
        for (int i = 1; i <= length; i++) {
            if (length(a, b, t + i) == 0) return 0;
        }
        return length;
    }

    int link(int a, int b, int t) {
        Thing x = relay(a);
        Thing y = relay(b);
        tick(t);
        return length(x, y, t);
    }

    boolean sees(int p, int r, int t) {
        Thing x = post(p);
        Thing y = relay(r);
        tick(t);
        return length(x, y, t) > 0;
    }

    /** From a post or relay to a post, tick by tick. */
    private long arrival(Thing from, Thing to, long tick) {
        long[] at = new long[relays.size()];
        Arrays.fill(at, Long.MAX_VALUE);
        if (from.relay) at[from.number] = tick;
        long best = Long.MAX_VALUE;
        for (long t = tick; t < tick + HORIZON && t < best; t++) {
            for (Thing r : relays) {
                if (!from.relay && takes(from, r, t) > 0) at[r.number] = Math.min(at[r.number], t + 1);
                if (at[r.number] > t) continue;
                if (takes(r, to, t) > 0) best = Math.min(best, t + 1);
                for (Thing o : relays) {
                    int length = Math.abs(o.plane - r.plane) <= 1 && at[o.number] > t ? takes(r, o, t) : 0;
                    if (length > 0) at[o.number] = Math.min(at[o.number], t + length);
                }
            }
        }
        return best == Long.MAX_VALUE ? -1 : best;
    }

    int earliest(int from, int to, int t) {
        Thing x = post(from);
        Thing y = post(to);
        tick(t);
        return from == to ? t : (int) arrival(x, y, t);
    }

    int late(int from, int to, boolean most) {
        Thing x = post(from);
        Thing y = post(to);
        if (from == to) return 0;
        long found = -1;
        for (int t = 0; t < 32; t++) {
            long a = arrival(x, y, t);
            if (a < 0) return -1;
            long l = a - t;
            if (found < 0 || (most ? l > found : l < found)) found = l;
        }
        return (int) found;
    }

    int meets(int p) {
        Thing x = post(p);
        int n = 0;
        for (int t = 0; t < 32; t++) {
            boolean any = false;
            for (Thing r : relays) any |= length(x, r, t) > 0;
            if (any) n++;
        }
        return n;
    }

    /** Tries sets of 0, 1, 2 .. relays, only where that is quick; then by flow in a table of capacities. */
    int part(int from, int to, int t) {
        Thing x = post(from);
        Thing y = post(to);
        tick(t);
        if (from == to) return -1;
        return relays.size() <= 12 ? partByTrying(x, y, t) : partByFlow(x, y, t);
    }

    private int partByTrying(Thing x, Thing y, int t) {
        int n = relays.size();
        int best = n;
        for (int set = 0; set < 1 << n; set++) {
            if (Integer.bitCount(set) < best && !leads(x, y, t, set)) best = Integer.bitCount(set);
        }
        return best;
    }

    private boolean leads(Thing x, Thing y, int t, int without) {
        boolean[] seen = new boolean[relays.size()];
        List<Thing> open = new ArrayList<>();
        open.add(x);
        while (!open.isEmpty()) {
            Thing a = open.remove(open.size() - 1);
            if (a.relay && length(a, y, t) > 0) return true;
            for (Thing b : relays) {
                if ((without >> b.number & 1) == 0 && !seen[b.number] && length(a, b, t) > 0) {
                    seen[b.number] = true;
                    open.add(b);
                }
            }
        }
        return false;
    }

    private int partByFlow(Thing x, Thing y, int t) {
        int n = relays.size();
        int[][] room = new int[2 * n + 2][2 * n + 2];
        for (Thing a : relays) {
            room[2 * a.number][2 * a.number + 1] = 1;
            if (length(x, a, t) > 0) room[2 * n][2 * a.number] = 99;
            if (length(a, y, t) > 0) room[2 * a.number + 1][2 * n + 1] = 99;
            for (Thing b : relays) {
                if (length(a, b, t) > 0) room[2 * a.number + 1][2 * b.number] = 99;
            }
        }
        int flow = 0;
        while (push(room, 2 * n, 2 * n + 1, new boolean[2 * n + 2])) flow++;
        return flow;
    }

    private boolean push(int[][] room, int at, int end, boolean[] seen) {
        if (at == end) return true;
        seen[at] = true;
        for (int b = 0; b < room.length; b++) {
            if (!seen[b] && room[at][b] > 0 && push(room, b, end, seen)) {
                room[at][b]--;
                room[b][at]++;
                return true;
            }
        }
        return false;
    }

    int send(int from, int to) {
        Thing x = post(from);
        post(to);
        if (from == to) throw new IllegalArgumentException();
        if (notes.size() == 60) throw new UnsupportedOperationException();
        Note n = new Note();
        n.from = from;
        n.to = to;
        n.at = x;
        n.sent = now;
        notes.add(n);
        return notes.size() - 1;
    }

    int steps(int n) {
        if (n < 0 || n > 100) throw new IllegalArgumentException();
        for (int i = 0; i < n; i++) step();
        return now;
    }

    private void step() {
        List<String> taken = new ArrayList<>();
        for (Note n : notes) {
            if (n.lost || n.came >= 0 || n.goesTo != null) continue;
            Thing next = choice(n);
            if (next == null) continue;
            String way = n.at.relay + " " + n.at.number + " " + next.relay + " " + next.number;
            if (taken.contains(way)) continue;
            taken.add(way);
            n.goesTo = next;
            n.arrives = now + length(n.at, next, now);
            n.links++;
        }
        now++;
        for (Note n : notes) {
            if (n.lost || n.goesTo == null || n.arrives != now) continue;
            n.at = n.goesTo;
            n.goesTo = null;
            if (!n.at.relay) n.came = now;
        }
        handOut();
    }

    private Thing choice(Note n) {
        Thing end = posts.get(n.to);
        long best = arrival(n.at, end, now);
        if (best < 0) return null;
        if (n.at.relay && takes(n.at, end, now) > 0 && now + 1 == best) return end;
        for (Thing r : relays) {
            int length = takes(n.at, r, now);
            if (length > 0 && arrival(r, end, now + length) == best) return r;
        }
        return null;
    }

    private void handOut() {
        for (int i = 0; i < notes.size(); i++) {
            Note n = notes.get(i);
            boolean free = n.came >= 0 && n.handed < 0;
            for (int j = 0; j < i; j++) {
                Note o = notes.get(j);
                if (o.from == n.from && o.to == n.to && !o.settled()) free = false;
            }
            if (free) n.handed = now;
        }
    }

    int look(int letter, int what) {
        if (letter < 0 || letter >= notes.size()) throw new IndexOutOfBoundsException();
        Note n = notes.get(letter);
        Thing at = n.goesTo != null ? n.goesTo : n.at;
        switch (what) {
            case 0:
                if (n.lost) return 5;
                if (n.handed >= 0) return 4;
                if (n.came >= 0) return 3;
                return n.goesTo != null ? 2 : n.at.relay ? 1 : 0;
            case 1: return n.lost || !at.relay ? -1 : at.number;
            case 2: return n.links;
            case 3: return n.sent;
            case 4: return n.came;
            case 5: return n.handed;
            default: throw new NoSuchElementException();
        }
    }

    int count(int what) {
        int n = 0;
        switch (what) {
            case 0: return now;
            case 1: return sizes.size();
            case 2: return relays.size();
            case 3:
                for (Thing r : relays) n += r.dead ? 1 : 0;
                return n;
            case 4: return posts.size();
            case 5: return notes.size();
            case 6:
                for (Note x : notes) n += x.handed >= 0 ? 1 : 0;
                return n;
            case 7:
                for (Note x : notes) n += x.lost ? 1 : 0;
                return n;
            case 8:
                for (Thing a : relays) {
                    for (Thing b : relays) n += a.number < b.number && length(a, b, now) > 0 ? 1 : 0;
                }
                return n;
            default: return -1;
        }
    }
}
