import java.util.ArrayList;
import java.util.Arrays;
import java.util.Collections;
import java.util.List;
import java.util.TreeSet;

/**
 * The document written down a second time, with lists and without any care for
 * speed: what the tests compare RiichiTable with.
 */
final class PlainTable {
    static final int BAD = -1;

    /** A set of a hand: 'r' run, 't' triplet, 'q' quad. */
    static final class Part {
        final char sort;
        final int kind;
        final boolean meld;
        boolean open;

        Part(char sort, int kind, boolean meld, boolean open) {
            this.sort = sort;
            this.kind = kind;
            this.meld = meld;
            this.open = open;
        }

        List<Integer> tiles() {
            List<Integer> all = new ArrayList<>();
            int n = sort == 'q' ? 4 : 3;
            for (int i = 0; i < n; i++) all.add(sort == 'r' ? kind + i : kind);
            return all;
        }

        boolean isSame() {
            return sort != 'r';
        }

        int code() {
            return 4 * kind + (sort == 'r' ? 0 : sort == 't' ? 1 : open ? 2 : 3);
        }
    }

    static final class Score {
        int han;
        int fu;
        int base;
        int got;
        TreeSet<Integer> yaku = new TreeSet<>();

        long mask() {
            long sum = 0;
            for (int y : yaku) sum += 1L << y;
            return sum;
        }

        boolean beats(Score o) {
            long[] a = {base, han, fu, mask()};
            long[] b = {o.base, o.han, o.fu, o.mask()};
            return Arrays.compare(a, b) > 0;
        }
    }

    static final class Seat {
        List<Integer> hand = new ArrayList<>();
        List<Part> melds = new ArrayList<>();
        List<Integer> river = new ArrayList<>();
        int points = 30000;
        int riichi;
        boolean once;
        boolean missed;
        int options;
        int answer;
        int low;
        Score won;

        boolean closed() {
            for (Part m : melds) if (m.open) return false;
            return true;
        }

        int count(int kind) {
            return Collections.frequency(hand, kind);
        }

        void drop(int kind, int n) {
            for (int i = 0; i < n; i++) hand.remove((Integer) kind);
        }
    }

    int x;
    int[] wall = new int[136];
    int nextPlace;
    int quads;
    int phase;
    int dealer;
    int round;
    int honba;
    int sticks;
    int who;
    int tile = BAD;
    boolean fromBehind;
    boolean added;
    boolean payDue;
    boolean anyCall;
    Seat[] seats = {new Seat(), new Seat(), new Seat(), new Seat()};

    PlainTable(int seed) {
        x = seed == 0 ? 1 : seed;
        shuffle();
    }

    private int draw(int n) {
        x = x ^ (x << 13);
        x = x ^ (x >>> 17);
        x = x ^ (x << 5);
        return (int) ((x & 0x7fffffffL) % n);
    }

    private void shuffle() {
        for (int t = 0; t < 136; t++) wall[t] = t;
        for (int i = 135; i >= 1; i--) {
            int j = draw(i + 1);
            int t = wall[i];
            wall[i] = wall[j];
            wall[j] = t;
        }
    }

    boolean arrange(int place, int kind) {
        if (phase != 0 || place < 0 || place > 135 || kind < 0 || kind > 33) return false;
        for (int i = place; i < 136; i++) {
            if (wall[i] / 4 == kind) {
                int t = wall[i];
                wall[i] = wall[place];
                wall[place] = t;
                return true;
            }
        }
        return false;
    }

    int left() {
        int n = 0;
        for (int i = nextPlace; i < 122 - quads; i++) n++;
        return n;
    }

    boolean deal() {
        if (phase != 0) return false;
        for (int s = 0; s < 4; s++) {
            Seat old = seats[(dealer + s) % 4];
            Seat seat = new Seat();
            seat.points = old.points;
            seat.won = old.won;
            for (int i = 0; i < 13; i++) seat.hand.add(wall[13 * s + i] / 4);
            seats[(dealer + s) % 4] = seat;
        }
        quads = 0;
        nextPlace = 52;
        anyCall = false;
        added = false;
        payDue = false;
        drawBy(dealer);
        return true;
    }

    private void drawBy(int p) {
        who = p;
        tile = wall[nextPlace++] / 4;
        fromBehind = false;
        seats[p].hand.add(tile);
        if (seats[p].riichi == 0) seats[p].missed = false;
        phase = 1;
    }

    private void finishQuad() {
        anyCall = true;
        for (Seat s : seats) s.once = false;
        tile = wall[135 - quads] / 4;
        quads++;
        fromBehind = true;
        seats[who].hand.add(tile);
        seats[who].missed = false;
        phase = 1;
    }

    static TreeSet<Integer> waitsOf(Seat s) {
        TreeSet<Integer> found = new TreeSet<>();
        if (s.hand.size() % 3 != 1) return found;
        int[] counts = new int[34];
        for (int k : s.hand) counts[k]++;
        for (int k = 0; k < 34; k++) {
            int has = s.count(k);
            for (Part m : s.melds) has += Collections.frequency(m.tiles(), k);
            if (has == 4) continue;
            counts[k]++;
            if (complete(counts, s.melds.isEmpty())) found.add(k);
            counts[k]--;
        }
        return found;
    }

    static boolean complete(int[] counts, boolean noMelds) {
        int twos = 0;
        int outers = 0;
        int inners = 0;
        for (int k = 0; k < 34; k++) {
            if (counts[k] == 2) twos++;
            if (counts[k] > 0 && outer(k)) outers++;
            if (counts[k] > 0 && !outer(k)) inners++;
        }
        if (noMelds && (twos == 7 || outers == 13 && inners == 0)) return true;
        for (int k = 0; k < 34; k++) {
            if (counts[k] < 2) continue;
            counts[k] -= 2;
            boolean sets = allSets(counts, 0);
            counts[k] += 2;
            if (sets) return true;
        }
        return false;
    }

    private static boolean allSets(int[] c, int from) {
        int k = from;
        while (k < 34 && c[k] == 0) k++;
        if (k == 34) return true;
        boolean found = false;
        if (c[k] >= 3) {
            c[k] -= 3;
            found = allSets(c, k);
            c[k] += 3;
        }
        if (!found && k < 27 && k % 9 < 7 && c[k + 1] > 0 && c[k + 2] > 0) {
            for (int i = 0; i < 3; i++) c[k + i]--;
            found = allSets(c, k);
            for (int i = 0; i < 3; i++) c[k + i]++;
        }
        return found;
    }

    static boolean outer(int k) {
        return k >= 27 || k % 9 == 0 || k % 9 == 8;
    }

    static boolean sevenPairs(List<Integer> tiles) {
        TreeSet<Integer> kinds = new TreeSet<>(tiles);
        if (kinds.size() != 7 || tiles.size() != 14) return false;
        for (int k : kinds) if (Collections.frequency(tiles, k) != 2) return false;
        return true;
    }

    static boolean orphans(List<Integer> tiles) {
        TreeSet<Integer> kinds = new TreeSet<>(tiles);
        for (int k : kinds) if (!outer(k)) return false;
        return kinds.size() == 13 && tiles.size() == 14;
    }

    /** Every way as a list whose first element is the pair (sort 'p'). */
    static List<List<Part>> ways(List<Integer> tiles) {
        List<List<Part>> found = new ArrayList<>();
        for (int k : new TreeSet<>(tiles)) {
            if (Collections.frequency(tiles, k) < 2) continue;
            List<Integer> rest = new ArrayList<>(tiles);
            rest.remove((Integer) k);
            rest.remove((Integer) k);
            Collections.sort(rest);
            if (!threesEverywhere(rest)) continue;
            List<Part> parts = new ArrayList<>();
            parts.add(new Part('p', k, false, false));
            setsOf(rest, parts, found);
        }
        return found;
    }

    /** Spares most of the trying: sets lie within a suit or an honour. */
    private static boolean threesEverywhere(List<Integer> tiles) {
        int[] groups = new int[34];
        for (int k : tiles) groups[k < 27 ? k / 9 : k]++;
        for (int n : groups) if (n % 3 != 0) return false;
        return true;
    }

    private static void setsOf(List<Integer> rest, List<Part> parts, List<List<Part>> found) {
        if (rest.isEmpty()) {
            found.add(new ArrayList<>(parts));
            return;
        }
        int k = rest.get(0);
        for (char sort : new char[] {'t', 'r'}) {
            if (sort == 'r' && (k >= 27 || k % 9 > 6)) continue;
            Part part = new Part(sort, k, false, false);
            List<Integer> less = new ArrayList<>(rest);
            boolean there = true;
            for (Integer t : part.tiles()) there &= less.remove(t);
            if (!there) continue;
            parts.add(part);
            setsOf(less, parts, found);
            parts.remove(parts.size() - 1);
        }
    }

    boolean furitenOf(Seat s) {
        if (s.missed) return true;
        for (int k : waitsOf(s)) if (s.river.contains(k)) return true;
        return false;
    }

    int discard(int kind, boolean riichi) {
        if (phase != 1) return BAD;
        Seat s = seats[who];
        if (!s.hand.contains(kind)) return BAD;
        if (s.riichi > 0 && (riichi || kind != tile)) return BAD;
        if (riichi) {
            if (!s.closed() || s.points < 1000 || left() < 4 || tile == BAD) return BAD;
            s.hand.remove((Integer) kind);
            boolean ready = !waitsOf(s).isEmpty();
            s.hand.add(kind);
            if (!ready) return BAD;
        }
        s.hand.remove((Integer) kind);
        s.once = false;
        if (riichi) {
            s.riichi = s.river.isEmpty() && !anyCall ? 2 : 1;
            s.once = true;
        }
        s.river.add(kind);
        payDue = riichi;
        tile = kind;
        added = false;
        ask();
        return phase;
    }

    int quad(int kind) {
        if (phase != 1 || tile == BAD) return BAD;
        Seat s = seats[who];
        if (s.riichi > 0 || quads > 3 || left() < 1) return BAD;
        if (s.count(kind) == 4) {
            s.drop(kind, 4);
            s.melds.add(new Part('q', kind, true, false));
            finishQuad();
            return phase;
        }
        if (s.count(kind) < 1 || tripletAt(s, kind) < 0) return BAD;
        s.drop(kind, 1);
        tile = kind;
        added = true;
        ask();
        return phase;
    }

    private static int tripletAt(Seat s, int kind) {
        for (int i = 0; i < s.melds.size(); i++) {
            Part m = s.melds.get(i);
            if (m.sort == 't' && m.kind == kind) return i;
        }
        return -1;
    }

    private boolean runWith(Seat s, int low) {
        if (low < 0 || low > 26 || low % 9 > 6 || tile < low || tile > low + 2) return false;
        for (int k = low; k < low + 3; k++) if (k != tile && !s.hand.contains(k)) return false;
        return true;
    }

    private void ask() {
        boolean anybody = false;
        for (int p = 0; p < 4; p++) {
            Seat s = seats[p];
            s.answer = 0;
            s.options = 0;
            if (p == who) continue;
            if (!furitenOf(s) && bestOf(p, false) != null) s.options += 16;
            if (!added && left() > 0 && s.riichi == 0) {
                if (s.count(tile) >= 2) s.options += 4;
                if (s.count(tile) >= 3 && quads < 4) s.options += 8;
                boolean run = runWith(s, tile) || runWith(s, tile - 1) || runWith(s, tile - 2);
                if (p == (who + 1) % 4 && run) s.options += 2;
            }
            anybody |= s.options > 0;
        }
        if (anybody) {
            phase = 2;
        } else if (added) {
            // No claims and no discard: nobody misses this tile.
            finishAdded();
        } else {
            settle();
        }
    }

    private void finishAdded() {
        Seat s = seats[who];
        s.melds.set(tripletAt(s, tile), new Part('q', tile, true, true));
        finishQuad();
    }

    int claim(int p, int what, int low) {
        if (phase != 2 || p < 0 || p > 3 || seats[p].options == 0) return BAD;
        if (what < 0 || what > 4) return BAD;
        if (what > 0 && (seats[p].options & 1 << what) == 0) return BAD;
        if (what == 1 && !runWith(seats[p], low)) return BAD;
        seats[p].options = 0;
        seats[p].answer = what;
        seats[p].low = low;
        for (Seat s : seats) if (s.options > 0) return phase;
        settle();
        return phase;
    }

    private void settle() {
        for (Seat s : seats) if (s.answer != 4 && waitsOf(s).contains(tile)) s.missed = true;
        List<Integer> winners = new ArrayList<>();
        for (int i = 1; i < 4; i++) if (seats[(who + i) % 4].answer == 4) winners.add((who + i) % 4);
        if (!winners.isEmpty()) {
            List<Score> scores = new ArrayList<>();
            for (int p : winners) scores.add(bestOf(p, false));
            for (int i = 0; i < winners.size(); i++) {
                Score score = scores.get(i);
                int p = winners.get(i);
                int due = up(score.base * (p == dealer ? 6 : 4)) + (i == 0 ? 300 * honba : 0);
                seats[who].points -= due;
                score.got = due + (i == 0 ? 1000 * sticks : 0);
                seats[p].points += score.got;
                seats[p].won = score;
            }
            sticks = 0;
            end(winners.contains(dealer), false);
            return;
        }
        if (added) {
            finishAdded();
            return;
        }
        if (payDue) {
            seats[who].points -= 1000;
            sticks++;
        }
        for (int what = 3; what > 0; what--) {
            for (int p = 0; p < 4; p++) {
                if (seats[p].answer == what) {
                    taken(p, what);
                    return;
                }
            }
        }
        if (left() > 0) {
            drawBy((who + 1) % 4);
        } else {
            drawnOut();
        }
    }

    private void taken(int p, int what) {
        Seat s = seats[p];
        Part part = new Part(what == 1 ? 'r' : what == 2 ? 't' : 'q', what == 1 ? s.low : tile, true, true);
        List<Integer> give = part.tiles();
        give.remove((Integer) tile);
        for (Integer k : give) s.hand.remove(k);
        s.melds.add(part);
        s.missed = false;
        anyCall = true;
        for (Seat o : seats) o.once = false;
        who = p;
        if (what == 3) {
            finishQuad();
        } else {
            tile = BAD;
            fromBehind = false;
            phase = 1;
        }
    }

    private void drawnOut() {
        List<Integer> ready = new ArrayList<>();
        for (int p = 0; p < 4; p++) if (!waitsOf(seats[p]).isEmpty()) ready.add(p);
        if (ready.size() % 4 != 0) {
            for (int p = 0; p < 4; p++) {
                if (ready.contains(p)) seats[p].points += 3000 / ready.size();
                else seats[p].points -= 3000 / (4 - ready.size());
            }
        }
        end(ready.contains(dealer), true);
    }

    private void end(boolean stays, boolean out) {
        phase = 3;
        if (stays || out) honba++;
        else honba = 0;
        if (stays) return;
        if (dealer == 3 && round == 1) {
            phase = 4;
            int top = 0;
            for (int p = 3; p >= 0; p--) {
                boolean most = true;
                for (Seat s : seats) most &= seats[p].points >= s.points;
                if (most) top = p;
            }
            seats[top].points += 1000 * sticks;
            sticks = 0;
            return;
        }
        if (dealer == 3) round++;
        dealer = (dealer + 1) % 4;
    }

    int win() {
        if (phase != 1 || tile == BAD) return BAD;
        Score score = bestOf(who, true);
        if (score == null) return BAD;
        for (int p = 0; p < 4; p++) {
            if (p == who) continue;
            int due = up(score.base * (who == dealer || p == dealer ? 2 : 1)) + 100 * honba;
            seats[p].points -= due;
            score.got += due;
        }
        score.got += 1000 * sticks;
        sticks = 0;
        seats[who].points += score.got;
        seats[who].won = score;
        end(who == dealer, false);
        return score.han;
    }

    static int up(int n) {
        while (n % 100 != 0) n++;
        return n;
    }

    boolean next() {
        if (phase != 3) return false;
        shuffle();
        phase = 0;
        return true;
    }

    // ---- the worth of a hand ----

    Score bestOf(int p, boolean byDraw) {
        Seat s = seats[p];
        List<Integer> tiles = new ArrayList<>(s.hand);
        if (!byDraw) tiles.add(tile);
        List<Integer> whole = new ArrayList<>(tiles);
        for (Part m : s.melds) whole.addAll(m.tiles());
        TreeSet<Integer> facts = facts(p, byDraw);
        List<Score> scores = new ArrayList<>();
        if (s.melds.isEmpty() && orphans(tiles)) {
            Score score = new Score();
            score.yaku.addAll(facts);
            score.yaku.add(30);
            score.fu = 30;
            scores.add(score);
        }
        if (s.melds.isEmpty() && sevenPairs(tiles)) {
            Score score = new Score();
            score.yaku.addAll(facts);
            score.yaku.add(26);
            wholeYaku(score, whole, false);
            score.fu = 25;
            scores.add(score);
        }
        for (List<Part> way : ways(tiles)) {
            for (Part spot : way) {
                boolean there = spot.sort == 'p' ? spot.kind == tile : spot.tiles().contains(tile);
                if (!there) continue;
                List<Part> sets = new ArrayList<>();
                for (Part part : way) if (part.sort != 'p') sets.add(part);
                sets.addAll(s.melds);
                spot.open = spot.sort == 't' && !byDraw;
                Score score = new Score();
                score.yaku.addAll(facts);
                wholeYaku(score, whole, s.melds.isEmpty());
                setYaku(score, sets, way.get(0).kind, spot, p);
                boolean limit = score.yaku.last() != null && score.yaku.last() >= 30;
                score.fu = fu(sets, way.get(0).kind, spot, p, byDraw, score.yaku.contains(8) && !limit);
                spot.open = false;
                scores.add(score);
            }
        }
        Score best = null;
        for (Score score : scores) {
            score.yaku.remove(-1);
            if (score.yaku.isEmpty()) continue;
            value(score, whole, p);
            if (best == null || score.beats(best)) best = score;
        }
        return best;
    }

    private TreeSet<Integer> facts(int p, boolean byDraw) {
        Seat s = seats[p];
        TreeSet<Integer> y = new TreeSet<>();
        y.add(-1);
        if (s.riichi == 1) y.add(0);
        if (s.riichi == 2) y.add(1);
        if (s.riichi > 0 && s.once) y.add(2);
        if (byDraw && s.closed()) y.add(3);
        if (byDraw && fromBehind) y.add(4);
        if (!byDraw && added) y.add(5);
        if (byDraw && !fromBehind && left() == 0) y.add(6);
        if (!byDraw && !added && left() == 0) y.add(7);
        if (byDraw && s.river.isEmpty() && !anyCall) y.add(p == dealer ? 40 : 41);
        return y;
    }

    private void wholeYaku(Score score, List<Integer> whole, boolean gates) {
        boolean anyOuter = false;
        boolean anyInner = false;
        boolean anyHonour = false;
        boolean anyEnd = false;
        boolean green = true;
        TreeSet<Integer> suits = new TreeSet<>();
        for (int k : whole) {
            anyOuter |= outer(k);
            anyInner |= !outer(k);
            anyHonour |= k >= 27;
            anyEnd |= outer(k) && k < 27;
            green &= List.of(19, 20, 21, 23, 25, 32).contains(k);
            if (k < 27) suits.add(k / 9);
        }
        if (!anyOuter) score.yaku.add(24);
        if (!anyInner) score.yaku.add(25);
        if (suits.size() == 1) score.yaku.add(anyHonour ? 28 : 29);
        if (suits.isEmpty()) score.yaku.add(37);
        if (!anyInner && !anyHonour) score.yaku.add(38);
        if (green) score.yaku.add(39);
        if (gates && suits.size() == 1 && !anyHonour) {
            boolean all = true;
            for (int r = 0; r < 9; r++) {
                int n = Collections.frequency(whole, 9 * suits.first() + r);
                all &= n >= (r % 8 == 0 ? 3 : 1);
            }
            if (all) score.yaku.add(31);
        }
    }

    private void setYaku(Score score, List<Part> sets, int pair, Part spot, int p) {
        int seat = 27 + (p - dealer + 4) % 4;
        int wind = 27 + round;
        boolean closed = seats[p].closed();
        List<Integer> runs = new ArrayList<>();
        List<Integer> sames = new ArrayList<>();
        int closedSames = 0;
        int quadCount = 0;
        for (Part part : sets) {
            if (part.sort == 'r') runs.add(part.kind);
            else sames.add(part.kind);
            if (part.isSame() && !part.open) closedSames++;
            if (part.sort == 'q') quadCount++;
        }
        if (closed && runs.size() == 4 && pair < 31 && pair != seat && pair != wind && spot.sort == 'r') {
            int r = spot.kind % 9 + 1;
            if (tile == spot.kind && r < 7 || tile == spot.kind + 2 && r > 1) score.yaku.add(8);
        }
        int twos = 0;
        for (int k : new TreeSet<>(runs)) twos += Collections.frequency(runs, k) / 2;
        if (closed && twos == 1) score.yaku.add(9);
        if (closed && twos == 2) score.yaku.add(27);
        if (sames.contains(seat)) score.yaku.add(10);
        if (sames.contains(wind)) score.yaku.add(11);
        for (int d = 0; d < 3; d++) if (sames.contains(31 + d)) score.yaku.add(12 + d);
        for (int r = 0; r < 7; r++) if (runs.containsAll(List.of(r, r + 9, r + 18))) score.yaku.add(15);
        for (int k = 0; k < 27; k += 9) if (runs.containsAll(List.of(k, k + 3, k + 6))) score.yaku.add(16);
        endsYaku(score, sets, pair);
        if (sames.size() == 4) score.yaku.add(19);
        if (closedSames == 3) score.yaku.add(20);
        if (quadCount == 3) score.yaku.add(21);
        for (int r = 0; r < 9; r++) if (sames.containsAll(List.of(r, r + 9, r + 18))) score.yaku.add(22);
        List<Integer> dragons = new ArrayList<>(List.of(31, 32, 33));
        List<Integer> winds = new ArrayList<>(List.of(27, 28, 29, 30));
        if (sames.containsAll(dragons)) score.yaku.add(34);
        if (sames.containsAll(winds)) score.yaku.add(36);
        if (dragons.remove((Integer) pair) && sames.containsAll(dragons)) score.yaku.add(23);
        if (winds.remove((Integer) pair) && sames.containsAll(winds)) score.yaku.add(35);
        if (closedSames == 4) score.yaku.add(32);
        if (quadCount == 4) score.yaku.add(33);
    }

    private void endsYaku(Score score, List<Part> sets, int pair) {
        boolean every = outer(pair);
        boolean honour = pair >= 27;
        boolean run = false;
        for (Part part : sets) {
            boolean any = false;
            for (int k : part.tiles()) any |= outer(k);
            every &= any;
            honour |= part.kind >= 27;
            run |= part.sort == 'r';
        }
        if (every && run) score.yaku.add(honour ? 17 : 18);
    }

    private int fu(List<Part> sets, int pair, Part spot, int p, boolean byDraw, boolean eight) {
        if (eight && byDraw) return 20;
        boolean closed = seats[p].closed();
        int fu = 20;
        if (closed && !byDraw) fu += 10;
        if (byDraw) fu += 2;
        if (pair >= 31) fu += 2;
        if (pair == 27 + (p - dealer + 4) % 4) fu += 2;
        if (pair == 27 + round) fu += 2;
        if (spot.sort == 'p') fu += 2;
        if (spot.sort == 'r') {
            int r = spot.kind % 9 + 1;
            int mine = tile % 9 + 1;
            if (mine == r + 1 || r == 1 && mine == 3 || r == 7 && mine == 7) fu += 2;
        }
        for (Part part : sets) {
            if (!part.isSame()) continue;
            int one = 2;
            if (!part.open) one *= 2;
            if (outer(part.kind)) one *= 2;
            if (part.sort == 'q') one *= 4;
            fu += one;
        }
        while (fu % 10 != 0) fu++;
        return fu == 20 && !closed ? 30 : fu;
    }

    private void value(Score score, List<Integer> whole, int p) {
        boolean closed = seats[p].closed();
        if (score.yaku.last() >= 30) {
            score.yaku.removeIf(y -> y < 30);
            score.han = 13;
        } else {
            for (int y : score.yaku) {
                int han = 1;
                if (List.of(1, 15, 16, 17, 19, 20, 21, 22, 23, 25, 26).contains(y)) han = 2;
                if (List.of(18, 27, 28).contains(y)) han = 3;
                if (y == 29) han = 6;
                if (!closed && List.of(15, 16, 17, 18, 28, 29).contains(y)) han--;
                score.han += han;
            }
            for (int k = 0; k <= quads; k++) {
                score.han += Collections.frequency(whole, dora(wall[131 - 2 * k] / 4));
                if (seats[p].riichi > 0) score.han += Collections.frequency(whole, dora(wall[130 - 2 * k] / 4));
            }
        }
        int h = score.han;
        int[] bases = {0, 0, 0, 0, 0, 2000, 3000, 3000, 4000, 4000, 4000, 6000, 6000};
        if (h >= 13) score.base = 8000;
        else if (h >= 5) score.base = bases[h];
        else score.base = Math.min(2000, score.fu * (int) Math.pow(2, 2 + h));
    }

    static int dora(int k) {
        if (k < 27) return k / 9 * 9 + (k + 1) % 9;
        if (k < 31) return 27 + (k - 27 + 1) % 4;
        return 31 + (k - 31 + 1) % 3;
    }
}
