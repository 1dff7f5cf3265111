import java.util.Arrays;

/**
 * A table of the game with four players and 136 tiles. The table holds the
 * rounds, the turns and the claims; the wall, the players' tiles and the worth
 * of a hand have classes of their own inside it.
 */
public final class RiichiTable {
    public static final int BAD = -1;

    private static final int PLAYERS = 4;
    private static final int ROUNDS = 2;
    private static final int STICK = 1000;

    private static final int KINDS = 34;
    private static final int SUITED = 27;
    private static final int EAST = 27;
    private static final int WHITE = 31;

    private static final int WALL = 0;
    private static final int TURN = 1;
    private static final int CLAIMS = 2;
    private static final int OVER = 3;
    private static final int FINISHED = 4;

    private static final int RUN = 0;
    private static final int TRIPLET = 1;
    private static final int OPEN_QUAD = 2;
    private static final int CLOSED_QUAD = 3;

    private static final int SETS = 4;
    private static final int MOST_QUADS = 4;

    private static final int MAY_RUN = 2;
    private static final int MAY_TRIPLET = 4;
    private static final int MAY_QUAD = 8;
    private static final int MAY_WIN = 16;

    private static final int SAY_NOTHING = 0;
    private static final int SAY_RUN = 1;
    private static final int SAY_TRIPLET = 2;
    private static final int SAY_QUAD = 3;
    private static final int SAY_WIN = 4;

    private final Wall wall;
    private final Player[] players = new Player[PLAYERS];
    private final Judge judge = new Judge();
    private int phase = WALL;
    private int dealer;
    private int round;
    private int honba;
    private int sticks;
    private int who;
    /** What is drawn in a turn, or what is claimed; BAD when nothing is. */
    private int tile = BAD;
    private boolean replacement;
    private boolean robbing;
    private boolean stickDue;
    private boolean called;

    public RiichiTable(int seed) {
        wall = new Wall(seed);
        for (int p = 0; p < PLAYERS; p++) {
            players[p] = new Player();
        }
        wall.shuffle();
    }

    public boolean arrange(int place, int kind) {
        return phase == WALL && wall.bringTo(place, kind);
    }

    public boolean deal() {
        if (phase != WALL) {
            return false;
        }
        for (int s = 0; s < PLAYERS; s++) {
            Player player = players[(dealer + s) % PLAYERS];
            player.clearHand();
            wall.dealTo(player.concealed, s);
        }
        called = false;
        drawFor(dealer);
        return true;
    }

    public int discard(int kind, boolean riichi) {
        if (phase != TURN || !isKind(kind)) {
            return BAD;
        }
        Player player = players[who];
        if (player.concealed[kind] == 0 || player.riichi != 0 && kind != tile) {
            return BAD;
        }
        if (riichi && !mayRiichi(player, kind)) {
            return BAD;
        }
        int riichiNow = player.riverCount == 0 && !called ? 2 : 1;
        player.layOff(kind);
        player.fresh = riichi;
        if (riichi) {
            player.riichi = riichiNow;
        }
        stickDue = riichi;
        tile = kind;
        robbing = false;
        phase = CLAIMS;
        if (!offerClaims()) {
            settle();
        }
        return phase;
    }

    public int quad(int kind) {
        if (phase != TURN || !isKind(kind) || tile == BAD) {
            return BAD;
        }
        Player maker = players[who];
        if (maker.riichi != 0 || wall.quads >= MOST_QUADS || wall.countLeft() < 1) {
            return BAD;
        }
        if (maker.concealed[kind] == 4) {
            maker.concealed[kind] = 0;
            maker.addMeld(kind, CLOSED_QUAD);
            completeQuad();
            return phase;
        }
        if (maker.concealed[kind] == 0 || !maker.hasOpenTriplet(kind)) {
            return BAD;
        }
        maker.concealed[kind]--;
        tile = kind;
        robbing = true;
        phase = CLAIMS;
        if (!offerClaims()) {
            completeAddedQuad();
        }
        return phase;
    }

    public int win() {
        if (phase != TURN || tile == BAD) {
            return BAD;
        }
        showHand(who, true);
        if (!judge.findBest()) {
            return BAD;
        }
        Player winner = players[who];
        winner.won.copy(judge.best);
        int base = winner.won.base;
        int sum = takeSticks();
        for (int p = 0; p < PLAYERS; p++) {
            if (p != who) {
                int shares = who == dealer || p == dealer ? 2 : 1;
                int due = toHundreds(shares * base) + 100 * honba;
                players[p].points -= due;
                sum += due;
            }
        }
        winner.points += sum;
        winner.won.got = sum;
        endHand(who == dealer, false);
        return winner.won.han;
    }

    public int options(int p) {
        if (!isPlayer(p)) {
            return BAD;
        }
        return phase == CLAIMS ? players[p].options : 0;
    }

    public int claim(int p, int what, int low) {
        if (phase != CLAIMS || !isPlayer(p)) {
            return BAD;
        }
        Player player = players[p];
        if (player.options == 0 || !mayAnswer(player, what, low)) {
            return BAD;
        }
        player.answer = what;
        player.low = low;
        player.options = 0;
        if (!isAnswerMissing()) {
            settle();
        }
        return phase;
    }

    public boolean next() {
        if (phase != OVER) {
            return false;
        }
        wall.shuffle();
        phase = WALL;
        return true;
    }

    public int phase() {
        return phase;
    }

    public int who() {
        return phase == TURN || phase == CLAIMS ? who : BAD;
    }

    public int drawn() {
        return phase == TURN || phase == CLAIMS ? tile : BAD;
    }

    public int concealed(int p, int kind) {
        return isHandShown() && isPlayer(p) && isKind(kind) ? players[p].concealed[kind] : 0;
    }

    public int meld(int p, int i) {
        if (!isHandShown() || !isPlayer(p)) {
            return BAD;
        }
        Player player = players[p];
        return i >= 0 && i < player.meldCount ? player.melds[i] : BAD;
    }

    public int river(int p, int i) {
        if (!isHandShown() || !isPlayer(p)) {
            return BAD;
        }
        Player player = players[p];
        return i >= 0 && i < player.riverCount ? player.river[i] : BAD;
    }

    public long waits(int p) {
        return isHandShown() && isPlayer(p) ? players[p].findWaits() : 0L;
    }

    public boolean furiten(int p) {
        return isHandShown() && isPlayer(p) && players[p].isFuriten();
    }

    public int points(int p) {
        return isPlayer(p) ? players[p].points : 0;
    }

    public int table(int what) {
        switch (what) {
            case 0:
                return dealer;
            case 1:
                return round;
            case 2:
                return honba;
            case 3:
                return sticks;
            case 4:
                return isHandShown() ? wall.countLeft() : 0;
            case 5:
                return isHandShown() ? wall.quads : 0;
            default:
                return BAD;
        }
    }

    public int worth(int p, int what) {
        if (!isPlayer(p) || players[p].won.yaku == 0) {
            return BAD;
        }
        Worth won = players[p].won;
        switch (what) {
            case 0:
                return won.han;
            case 1:
                return won.fu;
            case 2:
                return won.base;
            case 3:
                return won.got;
            default:
                return BAD;
        }
    }

    public long yaku(int p) {
        return isPlayer(p) ? players[p].won.yaku : 0L;
    }

    public int state() {
        return wall.x;
    }

    private static boolean isPlayer(int p) {
        return p >= 0 && p < PLAYERS;
    }

    private static boolean isKind(int kind) {
        return kind >= 0 && kind < KINDS;
    }

    private static int toHundreds(int amount) {
        return (amount + 99) / 100 * 100;
    }

    private boolean isHandShown() {
        return phase == TURN || phase == CLAIMS || phase == OVER;
    }

    private boolean mayRiichi(Player player, int kind) {
        if (player.riichi != 0 || !player.isClosed() || player.points < STICK
                || wall.countLeft() < 4 || tile == BAD) {
            return false;
        }
        player.concealed[kind]--;
        boolean ready = player.findWaits() != 0;
        player.concealed[kind]++;
        return ready;
    }

    /** Finds the options of the three others; whether anybody has one. */
    private boolean offerClaims() {
        for (int p = 0; p < PLAYERS; p++) {
            Player player = players[p];
            player.answer = SAY_NOTHING;
            player.options = p == who ? 0 : findTakes(p) | (mayWin(p) ? MAY_WIN : 0);
        }
        return isAnswerMissing();
    }

    private boolean isAnswerMissing() {
        for (int p = 0; p < PLAYERS; p++) {
            if (players[p].options != 0) {
                return true;
            }
        }
        return false;
    }

    private boolean mayWin(int p) {
        // To look for the tile alone first spares the other 33 kinds nearly always.
        if (!players[p].isWait(tile) || players[p].isFuriten()) {
            return false;
        }
        showHand(p, false);
        return judge.findBest();
    }

    private int findTakes(int p) {
        Player player = players[p];
        if (robbing || player.riichi != 0 || wall.countLeft() < 1) {
            return 0;
        }
        int found = 0;
        if (player.concealed[tile] >= 2) {
            found |= MAY_TRIPLET;
        }
        if (player.concealed[tile] >= 3 && wall.quads < MOST_QUADS) {
            found |= MAY_QUAD;
        }
        if (p == (who + 1) % PLAYERS) {
            for (int low = tile - 2; low <= tile; low++) {
                if (player.hasRestOfRun(low, tile)) {
                    found |= MAY_RUN;
                }
            }
        }
        return found;
    }

    private boolean mayAnswer(Player player, int what, int low) {
        switch (what) {
            case SAY_NOTHING:
                return true;
            case SAY_RUN:
                return (player.options & MAY_RUN) != 0 && player.hasRestOfRun(low, tile);
            case SAY_TRIPLET:
                return (player.options & MAY_TRIPLET) != 0;
            case SAY_QUAD:
                return (player.options & MAY_QUAD) != 0;
            case SAY_WIN:
                return (player.options & MAY_WIN) != 0;
            default:
                return false;
        }
    }

    private void settle() {
        noteMissed();
        if (findAnswer(SAY_WIN) != BAD) {
            payForTile();
        } else if (robbing) {
            completeAddedQuad();
        } else {
            payStick();
            handOver();
        }
    }

    private void noteMissed() {
        for (int p = 0; p < PLAYERS; p++) {
            if (players[p].answer != SAY_WIN && players[p].isWait(tile)) {
                players[p].missed = true;
            }
        }
    }

    private int findAnswer(int what) {
        for (int p = 0; p < PLAYERS; p++) {
            if (players[p].answer == what) {
                return p;
            }
        }
        return BAD;
    }

    private void payStick() {
        if (stickDue) {
            players[who].points -= STICK;
            sticks++;
        }
    }

    /** Gives the discard to who takes it, or else the turn to the next player. */
    private void handOver() {
        int taker = findAnswer(SAY_QUAD);
        if (taker != BAD) {
            players[taker].concealed[tile] -= 3;
            layDown(taker, tile, OPEN_QUAD);
            completeQuad();
            return;
        }
        taker = findAnswer(SAY_TRIPLET);
        if (taker != BAD) {
            players[taker].concealed[tile] -= 2;
            layDown(taker, tile, TRIPLET);
            return;
        }
        taker = findAnswer(SAY_RUN);
        if (taker != BAD) {
            players[taker].giveRestOfRun(players[taker].low, tile);
            layDown(taker, players[taker].low, RUN);
            return;
        }
        if (wall.countLeft() == 0) {
            drawOut();
        } else {
            drawFor((who + 1) % PLAYERS);
        }
    }

    /** Makes the meld of who takes the discard, and gives them the turn. */
    private void layDown(int taker, int kind, int form) {
        players[taker].addMeld(kind, form);
        players[taker].forgetMissed();
        noteCall();
        who = taker;
        tile = BAD;
        phase = TURN;
    }

    private void noteCall() {
        called = true;
        for (int p = 0; p < PLAYERS; p++) {
            players[p].fresh = false;
        }
    }

    private void completeAddedQuad() {
        players[who].raiseTriplet(tile);
        completeQuad();
    }

    private void completeQuad() {
        noteCall();
        giveDrawn(wall.drawReplacement());
        replacement = true;
    }

    private void drawFor(int p) {
        who = p;
        giveDrawn(wall.drawTile());
        replacement = false;
    }

    private void giveDrawn(int kind) {
        tile = kind;
        players[who].concealed[kind]++;
        players[who].forgetMissed();
        phase = TURN;
    }

    /** Gives the judge the hand of p with the tile that is drawn or claimed. */
    private void showHand(int p, boolean byDraw) {
        Player player = players[p];
        judge.lookAt(player, tile, byDraw);
        judge.seatWind = EAST + (p + PLAYERS - dealer) % PLAYERS;
        judge.roundWind = EAST + round;
        judge.happened = yakuOfRiichi(player) | (byDraw ? yakuOfDraw(p) : yakuOfTile());
        judge.dora = wall.countDora(judge.all, player.riichi != 0);
    }

    /** Yaku are sets of bits here, numbered as in the document. */
    private static long yakuOfRiichi(Player player) {
        return Judge.bitIf(player.riichi == 1, 0)
                | Judge.bitIf(player.riichi == 2, 1)
                | Judge.bitIf(player.riichi != 0 && player.fresh, 2);
    }

    private long yakuOfDraw(int p) {
        boolean first = players[p].riverCount == 0 && !called;
        return Judge.bitIf(players[p].isClosed(), 3)
                | Judge.bitIf(replacement, 4)
                | Judge.bitIf(!replacement && wall.countLeft() == 0, 6)
                | Judge.bitIf(first && p == dealer, 40)
                | Judge.bitIf(first && p != dealer, 41);
    }

    private long yakuOfTile() {
        return Judge.bitIf(robbing, 5) | Judge.bitIf(!robbing && wall.countLeft() == 0, 7);
    }

    private void payForTile() {
        boolean dealerWon = false;
        int extra = takeSticks();
        int honbaDue = 300 * honba;
        for (int step = 1; step < PLAYERS; step++) {
            int p = (who + step) % PLAYERS;
            Player winner = players[p];
            if (winner.answer == SAY_WIN) {
                showHand(p, false);
                judge.findBest();
                winner.won.copy(judge.best);
                int due = toHundreds((p == dealer ? 6 : 4) * winner.won.base) + honbaDue;
                players[who].points -= due;
                winner.points += due + extra;
                winner.won.got = due + extra;
                dealerWon = dealerWon || p == dealer;
                honbaDue = 0;
                extra = 0;
            }
        }
        endHand(dealerWon, false);
    }

    private int takeSticks() {
        int sum = STICK * sticks;
        sticks = 0;
        return sum;
    }

    private void drawOut() {
        int ready = 0;
        for (int p = 0; p < PLAYERS; p++) {
            if (players[p].findWaits() != 0) {
                ready |= 1 << p;
            }
        }
        int many = Integer.bitCount(ready);
        if (many > 0 && many < PLAYERS) {
            for (int p = 0; p < PLAYERS; p++) {
                boolean gets = (ready >> p & 1) != 0;
                players[p].points += gets ? 3000 / many : -3000 / (PLAYERS - many);
            }
        }
        endHand((ready >> dealer & 1) != 0, true);
    }

    private void endHand(boolean dealerStays, boolean drawnOut) {
        honba = dealerStays || drawnOut ? honba + 1 : 0;
        phase = OVER;
        if (dealerStays) {
            return;
        }
        if (dealer < PLAYERS - 1) {
            dealer++;
        } else if (round < ROUNDS - 1) {
            dealer = 0;
            round++;
        } else {
            finish();
        }
    }

    private void finish() {
        int first = 0;
        for (int p = 1; p < PLAYERS; p++) {
            if (players[p].points > players[first].points) {
                first = p;
            }
        }
        players[first].points += takeSticks();
        phase = FINISHED;
    }

    /** The generator, the tiles in their places, and how far they are drawn. */
    private static final class Wall {
        private static final int PLACES = 136;
        private static final int HAND = 13;
        private static final int FIRST_DRAWN = 52;
        private static final int END_OF_DRAWN = 122;
        private static final int FIRST_INDICATOR = 131;

        /** Tiles of one kind are all alike, so that their kinds are enough. */
        private final int[] kinds = new int[PLACES];
        private int x;
        private int place = FIRST_DRAWN;
        private int quads;

        Wall(int seed) {
            x = seed == 0 ? 1 : seed;
        }

        void shuffle() {
            for (int i = 0; i < PLACES; i++) {
                kinds[i] = i / 4;
            }
            for (int i = PLACES - 1; i >= 1; i--) {
                exchange(i, pick(i + 1));
            }
            place = FIRST_DRAWN;
            quads = 0;
        }

        private int pick(int n) {
            x = x ^ x << 13;
            x = x ^ x >>> 17;
            x = x ^ x << 5;
            return n > 0 ? (x & 0x7fffffff) % n : 0;
        }

        private void exchange(int i, int j) {
            if (isPlace(i) && isPlace(j)) {
                int kind = kinds[i];
                kinds[i] = kinds[j];
                kinds[j] = kind;
            }
        }

        private static boolean isPlace(int i) {
            return i >= 0 && i < PLACES;
        }

        boolean bringTo(int to, int kind) {
            if (!isPlace(to) || !isKind(kind)) {
                return false;
            }
            for (int i = to; i < PLACES; i++) {
                if (kinds[i] == kind) {
                    exchange(to, i);
                    return true;
                }
            }
            return false;
        }

        void dealTo(int[] counts, int seat) {
            for (int i = 0; i < HAND; i++) {
                int from = HAND * seat + i;
                if (isPlace(from)) {
                    counts[kinds[from]]++;
                }
            }
        }

        int countLeft() {
            return Math.max(0, END_OF_DRAWN - quads - place);
        }

        int drawTile() {
            int kind = isPlace(place) ? kinds[place] : 0;
            place++;
            return kind;
        }

        /** Draws for a quad that is completed by it. */
        int drawReplacement() {
            int from = PLACES - 1 - quads;
            quads++;
            return isPlace(from) ? kinds[from] : 0;
        }

        /** How often tiles of a hand are dora, in riichi also by what lies under the indicators. */
        int countDora(int[] counts, boolean riichi) {
            int sum = 0;
            for (int k = 0; k <= quads && k <= MOST_QUADS; k++) {
                sum += counts[kindBehind(kinds[FIRST_INDICATOR - 2 * k])];
                if (riichi) {
                    sum += counts[kindBehind(kinds[FIRST_INDICATOR - 1 - 2 * k])];
                }
            }
            return sum;
        }

        private static int kindBehind(int kind) {
            if (kind < SUITED) {
                return kind % 9 == 8 ? kind - 8 : kind + 1;
            }
            if (kind < WHITE) {
                return kind == WHITE - 1 ? EAST : kind + 1;
            }
            return kind == KINDS - 1 ? WHITE : kind + 1;
        }
    }

    /** A player's points and tiles, and what they have done in this hand. */
    private static final class Player {
        /** More than the 70 draws and at most 16 calls of a hand together. */
        private static final int RIVER = 96;

        private final int[] concealed = new int[KINDS];
        private final int[] melds = new int[SETS];
        private int meldCount;
        private final int[] river = new int[RIVER];
        private int riverCount;
        /** The kinds of the river, a bit each. */
        private long discarded;
        /** 0 not in riichi, 1 riichi, 2 double riichi. */
        private int riichi;
        /** Nobody has called or made a quad since the riichi, nor has the player discarded. */
        private boolean fresh;
        private boolean missed;
        private int points = 30000;
        private int options;
        private int answer;
        private int low;
        private final Worth won = new Worth();

        void clearHand() {
            Arrays.fill(concealed, 0);
            meldCount = 0;
            riverCount = 0;
            discarded = 0;
            riichi = 0;
            fresh = false;
            missed = false;
        }

        void layOff(int kind) {
            concealed[kind]--;
            discarded |= 1L << kind;
            if (riverCount < RIVER) {
                river[riverCount] = kind;
                riverCount++;
            }
        }

        void addMeld(int kind, int form) {
            if (meldCount < SETS) {
                melds[meldCount] = 4 * kind + form;
                meldCount++;
            }
        }

        boolean hasOpenTriplet(int kind) {
            for (int i = 0; i < meldCount; i++) {
                if (melds[i] == 4 * kind + TRIPLET) {
                    return true;
                }
            }
            return false;
        }

        void raiseTriplet(int kind) {
            for (int i = 0; i < meldCount; i++) {
                if (melds[i] == 4 * kind + TRIPLET) {
                    melds[i] = 4 * kind + OPEN_QUAD;
                }
            }
        }

        boolean isClosed() {
            for (int i = 0; i < meldCount; i++) {
                if (melds[i] % 4 != CLOSED_QUAD) {
                    return false;
                }
            }
            return true;
        }

        /** Whether the run from a kind on has the tile, and its two others are concealed. */
        boolean hasRestOfRun(int from, int tile) {
            if (from < 0 || from >= SUITED || from % 9 > 6 || tile < from || tile > from + 2) {
                return false;
            }
            for (int kind = from; kind <= from + 2; kind++) {
                if (kind != tile && concealed[kind] == 0) {
                    return false;
                }
            }
            return true;
        }

        void giveRestOfRun(int from, int tile) {
            if (hasRestOfRun(from, tile)) {
                for (int kind = from; kind <= from + 2; kind++) {
                    if (kind != tile) {
                        concealed[kind]--;
                    }
                }
            }
        }

        void forgetMissed() {
            if (riichi == 0) {
                missed = false;
            }
        }

        boolean isFuriten() {
            return missed || (findWaits() & discarded) != 0;
        }

        long findWaits() {
            long found = 0;
            if (lacksOne()) {
                for (int kind = 0; kind < KINDS; kind++) {
                    if (isWait(kind)) {
                        found |= 1L << kind;
                    }
                }
            }
            return found;
        }

        private boolean lacksOne() {
            int sum = 3 * meldCount;
            for (int kind = 0; kind < KINDS; kind++) {
                sum += concealed[kind];
            }
            return sum == 13;
        }

        /** Of tiles that lack one: whether this kind makes them complete and can still come. */
        boolean isWait(int kind) {
            if (countOwned(kind) >= 4) {
                return false;
            }
            concealed[kind]++;
            boolean complete = Shape.isComplete(concealed, meldCount);
            concealed[kind]--;
            return complete;
        }

        private int countOwned(int kind) {
            int sum = concealed[kind];
            for (int i = 0; i < meldCount; i++) {
                sum += Shape.countIn(melds[i], kind);
            }
            return sum;
        }
    }

    /** What can be told of tiles without taking them apart in every way. */
    private static final class Shape {
        /** A bit each for the kinds of rank 1 and 9 and the honours. */
        static final long OUTER = 0x3fc060301L;

        static boolean isOuter(int kind) {
            return (OUTER >> kind & 1L) != 0;
        }

        static int countIn(int meld, int kind) {
            int first = meld / 4;
            int form = meld % 4;
            if (form == RUN) {
                return kind >= first && kind <= first + 2 ? 1 : 0;
            }
            if (kind != first) {
                return 0;
            }
            return form == TRIPLET ? 3 : 4;
        }

        static boolean isComplete(int[] counts, int meldCount) {
            if (meldCount == 0 && (isSevenPairs(counts) || isOrphans(counts))) {
                return true;
            }
            for (int pair = 0; pair < KINDS; pair++) {
                if (counts[pair] >= 2 && isSetsBut(counts, pair)) {
                    return true;
                }
            }
            return false;
        }

        static boolean isSevenPairs(int[] counts) {
            int pairs = 0;
            for (int kind = 0; kind < KINDS; kind++) {
                if (counts[kind] == 2) {
                    pairs++;
                }
            }
            return pairs == 7;
        }

        static boolean isOrphans(int[] counts) {
            long found = 0;
            for (int kind = 0; kind < KINDS; kind++) {
                if (counts[kind] > 0) {
                    found |= 1L << kind;
                }
            }
            return found == OUTER;
        }

        /**
         * Whether all but a pair of a kind are sets. Three runs alike are three
         * triplets too, so that from the lowest kind on the number of runs that
         * begin there may be taken as what no triplet holds.
         */
        private static boolean isSetsBut(int[] counts, int pair) {
            int openOnce = 0;
            int openTwice = 0;
            for (int kind = 0; kind < KINDS; kind++) {
                if ((kind >= SUITED || kind % 9 == 0) && openOnce != 0) {
                    return false;
                }
                int rest = counts[kind] - openOnce - (kind == pair ? 2 : 0);
                if (rest < 0) {
                    return false;
                }
                int begun = rest % 3;
                openOnce = openTwice + begun;
                openTwice = begun;
            }
            return openOnce == 0;
        }
    }

    /** What a reading of a hand is worth. */
    private static final class Worth {
        private int han;
        private int fu;
        private int base;
        private int got;
        private long yaku;

        void copy(Worth other) {
            han = other.han;
            fu = other.fu;
            base = other.base;
            got = other.got;
            yaku = other.yaku;
        }

        boolean isAbove(Worth other) {
            if (base != other.base) {
                return base > other.base;
            }
            if (han != other.han) {
                return han > other.han;
            }
            if (fu != other.fu) {
                return fu > other.fu;
            }
            return yaku > other.yaku;
        }
    }

    /** Takes tiles apart into sets and a pair, and keeps every way. */
    private static final class Splitter {
        /** No 14 tiles can be taken apart in more than four ways. */
        private static final int MOST_WAYS = 8;
        /** Four sets and the pair. */
        private static final int PARTS = SETS + 1;
        private static final int DEEPEST = 34;

        private final int[] tiles = new int[KINDS];
        private final int[] sets = new int[SETS];
        private int setCount;
        private int pair;
        private final int[] ways = new int[MOST_WAYS * PARTS];
        private int wayCount;

        void takeMelds(Player player) {
            setCount = 0;
            for (int i = 0; i < player.meldCount; i++) {
                addSets(player.melds[i], 1);
            }
        }

        void findWays() {
            pair = BAD;
            wayCount = 0;
            takeApart(0, 0);
        }

        private void takeApart(int from, int depth) {
            int kind = from;
            while (kind < KINDS && tiles[kind] == 0) {
                kind++;
            }
            if (kind >= KINDS) {
                keepWay();
                return;
            }
            if (depth < DEEPEST) {
                for (int choice = 0; choice < 4; choice++) {
                    tryParts(kind, choice / 2, choice % 2, depth);
                }
            }
        }

        /** All tiles of the lowest kind go into parts that have none below it. */
        private void tryParts(int kind, int triplets, int pairs, int depth) {
            int runs = tiles[kind] - 3 * triplets - 2 * pairs;
            if (runs < 0 || pairs == 1 && pair != BAD || !hasRuns(kind, runs)) {
                return;
            }
            int pairBefore = pair;
            int setsBefore = setCount;
            if (pairs == 1) {
                pair = kind;
            }
            addSets(4 * kind + TRIPLET, triplets);
            addSets(4 * kind + RUN, runs);
            removeBehind(kind, runs);
            takeApart(kind + 1, depth + 1);
            removeBehind(kind, -runs);
            setCount = setsBefore;
            pair = pairBefore;
        }

        private boolean hasRuns(int kind, int runs) {
            return runs == 0 || kind < SUITED && kind % 9 <= 6
                    && tiles[kind + 1] >= runs && tiles[kind + 2] >= runs;
        }

        private void removeBehind(int kind, int runs) {
            if (runs != 0 && kind + 2 < KINDS) {
                tiles[kind + 1] -= runs;
                tiles[kind + 2] -= runs;
            }
        }

        private void addSets(int set, int many) {
            for (int i = 0; i < many && setCount < SETS; i++) {
                sets[setCount] = set;
                setCount++;
            }
        }

        private void keepWay() {
            if (setCount == SETS && pair != BAD && wayCount < MOST_WAYS) {
                for (int i = 0; i < SETS; i++) {
                    ways[wayCount * PARTS + i] = sets[i];
                }
                ways[wayCount * PARTS + SETS] = pair;
                wayCount++;
            }
        }

        /** Part i of a way: a set like a meld, or the kind of the pair behind the sets. */
        int partOf(int way, int i) {
            int at = way * PARTS + i;
            return at >= 0 && at < ways.length ? ways[at] : 0;
        }
    }

    /** Reads a complete hand in every way, and keeps the reading that counts. */
    private static final class Judge {
        private static final long HONOURS = 0x3f8000000L;
        private static final long WINDS = 0x78000000L;
        private static final long DRAGONS = 0x380000000L;
        private static final long GREENS = 0x102b80000L;
        private static final long SUIT = 0x1ffL;
        private static final long RANKS_1_4_7 = 0x49L;
        private static final int FIRST_LIMIT = 30;
        private static final int LIMIT_HAN = 13;
        private static final int[] CLOSED_HAN = {
            1, 2, 1, 1, 1, 1, 1, 1, 1, 1, 1, 1, 1, 1, 1,
            2, 2, 2, 3, 2, 2, 2, 2, 2, 1, 2, 2, 3, 3, 6
        };
        private static final int[] OPEN_HAN = {
            0, 0, 0, 0, 1, 1, 1, 1, 0, 0, 1, 1, 1, 1, 1,
            1, 1, 1, 2, 2, 2, 2, 2, 2, 1, 2, 0, 0, 2, 5
        };

        private final Splitter splitter = new Splitter();
        /** Every tile of the hand, melds and the last one included. */
        private final int[] all = new int[KINDS];
        private final int[] sets = new int[SETS];
        private int pair;
        private int meldCount;
        private boolean closed;
        private int last;
        /** Which set has the last tile; SETS when the pair has it. */
        private int lastAt;
        private boolean byDraw;
        private int seatWind;
        private int roundWind;
        private long happened;
        private int dora;
        private final Worth trial = new Worth();
        private final Worth best = new Worth();

        void lookAt(Player player, int tile, boolean drawn) {
            last = tile;
            byDraw = drawn;
            meldCount = player.meldCount;
            closed = player.isClosed();
            splitter.takeMelds(player);
            for (int kind = 0; kind < KINDS; kind++) {
                int count = player.concealed[kind] + (kind == tile && !drawn ? 1 : 0);
                splitter.tiles[kind] = count;
                for (int i = 0; i < player.meldCount; i++) {
                    count += Shape.countIn(player.melds[i], kind);
                }
                all[kind] = count;
            }
        }

        /** Whether there is a reading with a yaku. */
        boolean findBest() {
            best.yaku = 0;
            if (meldCount == 0 && Shape.isOrphans(all)) {
                rate(happened | 1L << 30, 30);
            }
            if (meldCount == 0 && Shape.isSevenPairs(all)) {
                rate(happened | 1L << 26 | yakuOfTiles(), 25);
            }
            splitter.findWays();
            long ofTiles = yakuOfTiles();
            for (int way = 0; way < splitter.wayCount; way++) {
                for (int i = 0; i < SETS; i++) {
                    sets[i] = splitter.partOf(way, i);
                }
                pair = splitter.partOf(way, SETS);
                for (int i = meldCount; i <= SETS; i++) {
                    lastAt = i;
                    if (isLastThere()) {
                        rateSets(ofTiles);
                    }
                }
            }
            return best.yaku != 0;
        }

        private boolean isLastThere() {
            return lastAt < SETS ? Shape.countIn(sets[lastAt], last) > 0 : pair == last;
        }

        private void rateSets(long ofTiles) {
            long runs = kindsOfSets(true);
            long triplets = kindsOfSets(false);
            long found = happened | ofTiles | yakuOfRuns(runs) | yakuOfEnds(runs)
                    | yakuOfTriplets(triplets) | yakuOfTripletSorts();
            boolean flat = (found & 1L << 8) != 0 && found >> FIRST_LIMIT == 0;
            rate(found, flat && byDraw ? 20 : countFu());
        }

        private void rate(long found, int fu) {
            long limits = found >> FIRST_LIMIT << FIRST_LIMIT;
            trial.yaku = limits != 0 ? limits : found;
            trial.han = limits != 0 ? LIMIT_HAN : countHan(found);
            trial.fu = fu;
            trial.base = baseOf(trial.han, fu);
            if (found != 0 && (best.yaku == 0 || trial.isAbove(best))) {
                best.copy(trial);
            }
        }

        private int countHan(long found) {
            int han = dora;
            for (int y = 0; y < FIRST_LIMIT; y++) {
                if ((found >> y & 1L) != 0) {
                    han += closed ? CLOSED_HAN[y] : OPEN_HAN[y];
                }
            }
            return han;
        }

        private static int baseOf(int han, int fu) {
            if (han >= 13) {
                return 8000;
            }
            if (han >= 11) {
                return 6000;
            }
            if (han >= 8) {
                return 4000;
            }
            if (han >= 6) {
                return 3000;
            }
            // 5 han need no line of their own: even 20 fu, the fewest, go beyond 2000 then.
            return Math.min(2000, fu << 2 + han);
        }

        static long bitIf(boolean holds, int y) {
            return holds ? 1L << y : 0L;
        }

        private static boolean has(long kinds, int kind) {
            return (kinds >> kind & 1L) != 0;
        }

        private long kindsOfSets(boolean runs) {
            long found = 0;
            for (int i = 0; i < SETS; i++) {
                boolean isRun = sets[i] % 4 == RUN;
                if (isRun == runs) {
                    found |= 1L << sets[i] / 4;
                }
            }
            return found;
        }

        /** Of kinds in suits: those of the first suit whose ranks are there in all three. */
        private static long inAllSuits(long kinds) {
            return kinds & kinds >> 9 & kinds >> 18 & SUIT;
        }

        private static boolean hasStraight(long runs) {
            return (runs & RANKS_1_4_7) == RANKS_1_4_7
                    || (runs >> 9 & RANKS_1_4_7) == RANKS_1_4_7
                    || (runs >> 18 & RANKS_1_4_7) == RANKS_1_4_7;
        }

        private long yakuOfRuns(long runs) {
            long found = bitIf(inAllSuits(runs) != 0, 15) | bitIf(hasStraight(runs), 16);
            if (closed) {
                int pairs = countPairsOfRuns();
                found |= bitIf(isFlat(), 8) | bitIf(pairs == 1, 9) | bitIf(pairs == 2, 27);
            }
            return found;
        }

        private boolean isFlat() {
            for (int i = 0; i < SETS; i++) {
                if (sets[i] % 4 != RUN) {
                    return false;
                }
            }
            if (pair >= WHITE || pair == seatWind || pair == roundWind || lastAt >= SETS) {
                return false;
            }
            int first = sets[lastAt] / 4;
            int rank = first % 9 + 1;
            return last == first && rank < 7 || last == first + 2 && rank > 1;
        }

        private int countPairsOfRuns() {
            int pairs = 0;
            for (int i = 0; i < SETS; i++) {
                int alike = 0;
                for (int j = 0; j <= i; j++) {
                    alike += sets[j] == sets[i] ? 1 : 0;
                }
                pairs += sets[i] % 4 == RUN && alike % 2 == 0 ? 1 : 0;
            }
            return pairs;
        }

        private long yakuOfEnds(long runs) {
            boolean honour = pair >= SUITED;
            if (runs == 0 || !Shape.isOuter(pair)) {
                return 0;
            }
            for (int i = 0; i < SETS; i++) {
                int kind = sets[i] / 4;
                boolean lastOfSuit = sets[i] % 4 == RUN && kind % 9 == 6;
                if (!Shape.isOuter(kind) && !lastOfSuit) {
                    return 0;
                }
                honour = honour || kind >= SUITED;
            }
            return 1L << (honour ? 17 : 18);
        }

        private long yakuOfTriplets(long triplets) {
            long found = bitIf(has(triplets, seatWind), 10) | bitIf(has(triplets, roundWind), 11);
            for (int dragon = 0; dragon < 3; dragon++) {
                found |= bitIf(has(triplets, WHITE + dragon), 12 + dragon);
            }
            int dragons = Long.bitCount(triplets & DRAGONS);
            int winds = Long.bitCount(triplets & WINDS);
            return found
                    | bitIf(inAllSuits(triplets) != 0, 22)
                    | bitIf(dragons == 2 && has(DRAGONS, pair), 23)
                    | bitIf(dragons == 3, 34)
                    | bitIf(winds == 3 && has(WINDS, pair), 35)
                    | bitIf(winds == 4, 36);
        }

        private long yakuOfTripletSorts() {
            int many = 0;
            int closedOnes = 0;
            int quads = 0;
            for (int i = 0; i < SETS; i++) {
                int form = sets[i] % 4;
                if (form != RUN) {
                    many++;
                    closedOnes += isSetClosed(i) ? 1 : 0;
                    quads += form == TRIPLET ? 0 : 1;
                }
            }
            return bitIf(many == 4, 19) | bitIf(closedOnes == 3, 20) | bitIf(quads == 3, 21)
                    | bitIf(closedOnes == 4, 32) | bitIf(quads == 4, 33);
        }

        private boolean isSetClosed(int i) {
            if (i < meldCount) {
                return sets[i] % 4 == CLOSED_QUAD;
            }
            return byDraw || lastAt != i;
        }

        private long kindsOfTiles() {
            long found = 0;
            for (int kind = 0; kind < KINDS; kind++) {
                found |= bitIf(all[kind] > 0, kind);
            }
            return found;
        }

        private long yakuOfTiles() {
            long kinds = kindsOfTiles();
            int suits = 0;
            int suit = 0;
            for (int s = 0; s < 3; s++) {
                if ((kinds >> 9 * s & SUIT) != 0) {
                    suits++;
                    suit = s;
                }
            }
            boolean honour = (kinds & HONOURS) != 0;
            return bitIf((kinds & Shape.OUTER) == 0, 24)
                    | bitIf((kinds & ~Shape.OUTER) == 0, 25)
                    | bitIf(suits == 1 && honour, 28)
                    | bitIf(suits == 1 && !honour, 29)
                    | bitIf(suits == 1 && !honour && hasNineGates(9 * suit), 31)
                    | bitIf(suits == 0, 37)
                    | bitIf((kinds & ~(Shape.OUTER & ~HONOURS)) == 0, 38)
                    | bitIf((kinds & ~GREENS) == 0, 39);
        }

        private boolean hasNineGates(int first) {
            if (meldCount != 0) {
                return false;
            }
            for (int rank = 1; rank <= 9; rank++) {
                int least = rank == 1 || rank == 9 ? 3 : 1;
                if (all[first + rank - 1] < least) {
                    return false;
                }
            }
            return true;
        }

        private int countFu() {
            int fu = 20 + fuOfPair() + fuOfLast();
            if (byDraw) {
                fu += 2;
            } else if (closed) {
                fu += 10;
            }
            for (int i = 0; i < SETS; i++) {
                fu += fuOfSet(i);
            }
            int tens = (fu + 9) / 10 * 10;
            return tens == 20 && !closed ? 30 : tens;
        }

        private int fuOfPair() {
            return (has(DRAGONS, pair) ? 2 : 0) + (pair == seatWind ? 2 : 0)
                    + (pair == roundWind ? 2 : 0);
        }

        private int fuOfLast() {
            if (lastAt >= SETS) {
                return 2;
            }
            if (sets[lastAt] % 4 != RUN) {
                return 0;
            }
            int first = sets[lastAt] / 4;
            boolean narrow = last == first + 1 || last == first + 2 && first % 9 == 0
                    || last == first && first % 9 == 6;
            return narrow ? 2 : 0;
        }

        private int fuOfSet(int i) {
            int form = sets[i] % 4;
            if (form == RUN) {
                return 0;
            }
            int fu = isSetClosed(i) ? 4 : 2;
            fu *= Shape.isOuter(sets[i] / 4) ? 2 : 1;
            return form == TRIPLET ? fu : 4 * fu;
        }
    }
}
