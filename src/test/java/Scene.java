import java.util.ArrayList;
import java.util.Arrays;
import java.util.List;

/**
 * A wall that is written down before the deal. Tiles are told as "123m 4p 55s
 * 17z": m, p, s for the suits 0, 1, 2, and z for the honours 1 .. 7.
 */
final class Scene {
    private final int[] places = new int[136];
    private String spare = "";

    Scene() {
        Arrays.fill(places, -1);
    }

    static int[] kinds(String text) {
        List<Integer> ranks = new ArrayList<>();
        List<Integer> found = new ArrayList<>();
        for (char c : text.toCharArray()) {
            if (c >= '1' && c <= '9') {
                ranks.add(c - '1');
            } else if (c != ' ') {
                for (int rank : ranks) found.add(9 * "mpsz".indexOf(c) + rank);
                ranks.clear();
            }
        }
        if (!ranks.isEmpty()) throw new IllegalStateException("ranks without a suit: " + text);
        int[] all = new int[found.size()];
        for (int i = 0; i < all.length; i++) all[i] = found.get(i);
        return all;
    }

    static int kind(String text) {
        return kinds(text)[0];
    }

    /** A kind as it is told in texts. */
    static String text(int kind) {
        return kind % 9 + 1 + "mpsz".substring(kind / 9, kind / 9 + 1);
    }

    static long mask(String text) {
        return Check.bits(kinds(text));
    }

    /** Tiles from a place on, upwards. */
    Scene put(int place, String text) {
        int at = place;
        for (int kind : kinds(text)) places[at++] = kind;
        return this;
    }

    /** The first tiles of the hand of a seat; seat 0 is the dealer. */
    Scene hand(int seat, String text) {
        if (kinds(text).length > 13) throw new IllegalStateException("more than 13 tiles: " + text);
        return put(13 * seat, text);
    }

    Scene draws(String text) {
        return put(52, text);
    }

    /** Replacements from place 135 downwards. */
    Scene replacements(String text) {
        int at = 135;
        for (int kind : kinds(text)) places[at--] = kind;
        return this;
    }

    /** Indicators from place 131 downwards, and under them. */
    Scene indicators(String above, String under) {
        int at = 131;
        for (int kind : kinds(above)) {
            places[at] = kind;
            at -= 2;
        }
        at = 130;
        for (int kind : kinds(under)) {
            places[at] = kind;
            at -= 2;
        }
        return this;
    }

    /** Kinds that fill the places which are not told, before all others. */
    Scene spare(String text) {
        spare = text;
        return this;
    }

    RiichiTable deal() {
        return dealOn(new RiichiTable(9));
    }

    RiichiTable dealOn(RiichiTable table) {
        layOn(table);
        if (!table.deal()) throw new IllegalStateException("no deal");
        return table;
    }

    void layOn(RiichiTable table) {
        int[] free = new int[34];
        Arrays.fill(free, 4);
        int end = 0;
        for (int i = 0; i < 136; i++) {
            if (places[i] >= 0) {
                free[places[i]]--;
                end = i + 1;
            }
        }
        List<Integer> rest = new ArrayList<>();
        for (int kind : kinds(spare)) take(free, kind, rest);
        // Steps of 7 keep the tiles that fill up from being neighbours.
        for (int i = 0; i < 136; i++) take(free, i * 7 % 34, rest);
        int used = 0;
        for (int i = 0; i < end; i++) {
            int kind = places[i] >= 0 ? places[i] : rest.get(used++);
            if (!table.arrange(i, kind)) throw new IllegalStateException("no kind " + kind + " for place " + i);
        }
    }

    private static void take(int[] free, int kind, List<Integer> rest) {
        if (free[kind] < 0) throw new IllegalStateException("more than four of kind " + kind);
        if (free[kind] > 0) {
            free[kind]--;
            rest.add(kind);
        }
    }

    /** A table before the deal of a hand: all before it were won by the player behind the dealer. */
    static RiichiTable before(int hand) {
        RiichiTable table = new RiichiTable(9);
        for (int i = 0; i < hand; i++) {
            orphansDrawn(table, 1);
            table.next();
        }
        return table;
    }

    /** A hand in which this seat wins by its first draw, by yaku that know no dora. */
    static void orphansDrawn(RiichiTable table, int seat) {
        int[] kinds = kinds("19m 19p 19s 1234567z");
        int[] inner = kinds("2345678m 2345678p 2345678s");
        // Outer kinds must not all be in the hands before; that one hand has four of one is not to be feared.
        for (int i = 0; seat > 1 && i < 13 * seat; i++) table.arrange(i, inner[i % 21]);
        for (int i = 0; i < 13; i++) table.arrange(13 * seat + i, kinds[i]);
        boolean there = false;
        for (int i = 0; i < 13 && !there; i++) there = table.arrange(52 + seat, kinds[i]);
        table.deal();
        letGoDrawn(table, seat);
        if (table.win() != 13) throw new IllegalStateException("no orphans");
    }

    /**
     * A table before the deal of its last hand: players 0, 1 and 2 are level, all
     * by tiles of player 3. It takes few calls, so that the last hand can be played.
     */
    static RiichiTable levelBeforeTheLastHand() {
        RiichiTable table = before(4);
        int[] kinds = kinds("19m 19p 19s 1234567z");
        int[] winners = {1, 2, 0};
        for (int hand = 0; hand < 3; hand++) {
            int seat = (winners[hand] - hand + 4) % 4;
            int loser = 3 - hand;
            for (int place = 0; place < 52; place++) {
                if (place / 13 == seat) table.arrange(place, kinds[place % 13]);
                if (place == 13 * loser) table.arrange(place, kinds[0]);
            }
            // What is drawn before must be inner, or the winner would be furiten.
            for (int i = 0; i < loser; i++) {
                boolean there = false;
                for (int kind = 1; kind < 8 && !there; kind++) there = table.arrange(52 + i, kind);
            }
            table.deal();
            letGoDrawn(table, loser);
            table.discard(kinds[0], false);
            table.claim(winners[hand], 4, 0);
            pass(table);
            if (!table.next()) throw new IllegalStateException("not won by player " + winners[hand]);
        }
        return table;
    }

    /** Lets everybody who has options answer with nothing. */
    static void pass(RiichiTable table) {
        for (int p = 0; p < 4; p++) if (table.options(p) > 0) table.claim(p, 0, 0);
    }

    /** Discards, and nobody takes it. */
    static void letGo(RiichiTable table, int kind) {
        int phase = table.discard(kind, false);
        if (phase == RiichiTable.BAD) throw new IllegalStateException("no discard of " + kind);
        if (phase == 2) pass(table);
    }

    /** Discards what is drawn for some turns, and nobody takes it. */
    static void letGoDrawn(RiichiTable table, int turns) {
        for (int i = 0; i < turns; i++) letGo(table, table.drawn());
    }
}
