import java.util.ArrayList;
import java.util.Arrays;
import java.util.List;

/**
 * A hand that is won, played through the face: one player makes the melds from
 * the discards and draws of a scripted hand, and then wins by a tile of the
 * player before, or by a draw.
 */
final class HandScene {
    final int winner;
    private final int feeder;
    final int[] last;
    private final boolean byDraw;
    private final List<Integer> own = new ArrayList<>();
    private final List<Integer> feed = new ArrayList<>();
    private final List<Integer> draws = new ArrayList<>();
    private final List<int[]> steps = new ArrayList<>();
    private final int[] free = new int[34];
    private final long used;
    private long waits;
    private int[] told = {};

    private static final int LET_GO = 0;
    private static final int FEED = 1;
    private static final int TAKE = 2;
    private static final int QUAD = 3;
    private static final int THROW = 4;

    /** Melds: r run, t triplet, q quad of a discard, a added quad, c closed quad. */
    HandScene(int seat, String hand, String melds, String last, boolean byDraw) {
        winner = seat;
        feeder = (seat + 3) % 4;
        this.last = Scene.kinds(last);
        this.byDraw = byDraw;
        Arrays.fill(free, 4);
        long all = Scene.mask(hand) | Scene.mask(last);
        PlainTable.Seat plain = new PlainTable.Seat();
        for (int k : Scene.kinds(hand)) {
            own.add(k);
            free[k]--;
            plain.hand.add(k);
        }
        free[this.last[0]]--;
        for (String meld : melds.split(" ")) {
            if (meld.isEmpty()) continue;
            int[] kinds = Scene.kinds(meld.substring(1));
            for (int k : kinds) free[k]--;
            for (int k : kinds) all |= 1L << k;
            plain.melds.add(new PlainTable.Part(kinds.length == 4 ? 'q' : kinds[0] == kinds[1] ? 't' : 'r',
                    kinds[0], true, true));
        }
        for (int k : PlainTable.waitsOf(plain)) waits |= 1L << k;
        used = all | waits;
        firstRound();
        for (String meld : melds.split(" ")) if (!meld.isEmpty()) makeMeld(meld.charAt(0), Scene.kinds(meld.substring(1)));
        finish();
    }

    /** The kinds of the first indicators; the others tell no dora of the hand. */
    HandScene indicators(String text) {
        told = Scene.kinds(text);
        for (int kind : told) free[kind]--;
        return this;
    }

    private int junk() {
        for (int i = 0; i < 34; i++) {
            int kind = (i * 5 + 4 * draws.size()) % 34;
            if ((used >> kind & 1) == 0 && free[kind] > 0) {
                free[kind]--;
                return kind;
            }
        }
        throw new IllegalStateException("no kinds left over");
    }

    private void firstRound() {
        boolean done = false;
        for (int turn = 0; turn % 4 != feeder || !done; turn++) {
            done |= turn % 4 == winner;
            draws.add(junk());
            steps.add(new int[] {LET_GO});
        }
        draws.add(junk());
    }

    /** Begins and ends with the turn of the feeder, who has drawn. */
    private void makeMeld(char sort, int[] kinds) {
        int kind = kinds[0];
        if (sort == 'c') {
            own.addAll(List.of(kind, kind, kind));
            drawQuad(kind);
            return;
        }
        feed.add(kind);
        steps.add(new int[] {FEED, kind});
        for (int i = 1; i < (sort == 'a' ? 3 : kinds.length); i++) own.add(kinds[i]);
        int what = sort == 'r' ? 1 : sort == 'q' ? 3 : 2;
        steps.add(new int[] {TAKE, what, kind});
        if (sort == 'q') {
            steps.add(new int[] {LET_GO});
        } else {
            int junk = junk();
            own.add(junk);
            steps.add(new int[] {THROW, junk});
        }
        toFeeder();
        if (sort == 'a') drawQuad(kind);
    }

    private void drawQuad(int kind) {
        steps.add(new int[] {LET_GO});
        draws.add(kind);
        steps.add(new int[] {QUAD, kind});
        steps.add(new int[] {LET_GO});
        toFeeder();
    }

    private void toFeeder() {
        for (int i = 0; i < 2; i++) {
            draws.add(junk());
            steps.add(new int[] {LET_GO});
        }
        draws.add(junk());
    }

    private void finish() {
        if (byDraw) {
            steps.add(new int[] {LET_GO});
            draws.add(last[0]);
        } else {
            feed.add(last[0]);
        }
    }

    RiichiTable play() {
        if (own.size() != 13) throw new IllegalStateException("a hand of " + own.size() + " tiles");
        int[] places = new int[136];
        Arrays.fill(places, -1);
        for (int i = 0; i < own.size(); i++) places[13 * winner + i] = own.get(i);
        for (int i = 0; i < feed.size(); i++) places[13 * feeder + i] = feed.get(i);
        for (int i = 0; i < draws.size(); i++) places[52 + i] = draws.get(i);
        for (int i = 0; i < 4; i++) places[135 - i] = junk();
        for (int i = 0; i < 5; i++) places[131 - 2 * i] = i < told.length ? told[i] : harmless();
        RiichiTable table = new RiichiTable(3);
        int[] rest = free.clone();
        int next = 0;
        for (int i = 0; i < 132; i++) {
            int kind = places[i];
            while (kind < 0) {
                next = (next + 7) % 34;
                if (rest[next] > 0) {
                    rest[next]--;
                    kind = next;
                }
            }
            if (!table.arrange(i, kind)) throw new IllegalStateException("no kind " + kind + " for place " + i);
        }
        for (int i = 132; i < 136; i++) table.arrange(i, places[i]);
        table.deal();
        for (int[] step : steps) doStep(table, step);
        return table;
    }

    /** An indicator whose dora the hand doesn't have. */
    private int harmless() {
        for (int kind = 33; kind >= 0; kind--) {
            if (free[kind] > 0 && (used >> PlainTable.dora(kind) & 1) == 0) {
                free[kind]--;
                return kind;
            }
        }
        throw new IllegalStateException("no indicator");
    }

    private void doStep(RiichiTable table, int[] step) {
        int answer = 0;
        if (step[0] == LET_GO) Scene.letGo(table, table.drawn());
        if (step[0] == FEED) answer = table.discard(step[1], false);
        if (step[0] == THROW) Scene.letGo(table, step[1]);
        if (step[0] == QUAD) answer = table.quad(step[1]);
        if (step[0] == TAKE) {
            answer = table.claim(winner, step[1], step[2]);
            Scene.pass(table);
        }
        if (answer == RiichiTable.BAD) throw new IllegalStateException("step " + Arrays.toString(step));
    }

    /** Whether it could be won; then it is. */
    boolean win(RiichiTable table) {
        if (byDraw) return table.win() != RiichiTable.BAD;
        table.discard(last[0], false);
        if ((table.options(winner) & 16) == 0) return false;
        table.claim(winner, 4, 0);
        Scene.pass(table);
        return true;
    }

    /** what: the han, the fu, the base and the points got; none: there is no yaku. */
    static void row(Check check, int seat, String hand, String melds, String last, boolean byDraw, int[] yaku, int... what) {
        String name = hand + " | " + melds + " | " + last + (byDraw ? " drawn" : "");
        HandScene test = new HandScene(seat, hand, melds, last, byDraw);
        RiichiTable table = test.play();
        check.due(name + " waits", (byDraw ? table.who() == seat && table.waits(seat) == 0 : table.waits(seat) == test.waits), true);
        check.due(name + " is won", test.win(table), what.length > 0);
        check.due(name + " yaku", table.yaku(seat), Check.bits(yaku));
        for (int i = 0; i < what.length; i++) check.due(name + " worth " + i, table.worth(seat, i), what[i]);
        if (what.length == 0) check.due(name + " worth", table.worth(seat, 0), -1);
        if (what.length > 0) {
            check.due(name + " phase", table.phase(), 3);
            check.due(name + " points", table.points(seat), 30000 + what[3]);
            check.due(name + " dealer", table.table(0), seat == 0 ? 0 : 1);
        }
    }
}
