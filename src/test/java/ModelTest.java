import java.util.ArrayList;
import java.util.Arrays;
import java.util.Collections;
import java.util.List;
import java.util.Random;
import java.util.TreeSet;

/**
 * Plays hands by chance, with arranged walls that make claims, riichi, quads
 * and wins frequent, on a RiichiTable and on a PlainTable side by side. Every
 * object is used for 512 calls at most.
 *
 * Arguments, all optional: first seed, number of games, calls of each object.
 */
public final class ModelTest {
    private static final int[][] THEMES = {
        {0, 1, 2, 3, 4, 5, 6, 7, 8},
        {9, 10, 11, 12, 13, 14, 15, 16, 17, 27, 28, 29, 30, 31, 32, 33},
        {27, 28, 29, 30, 31, 32, 33, 0, 8, 9, 17, 18, 26},
        {1, 2, 3, 4, 5, 6, 7, 10, 11, 12, 13, 14, 15, 16, 19, 20, 21, 22, 23, 24, 25},
        {0, 1, 2, 6, 7, 8, 9, 10, 11, 15, 16, 17, 18, 19, 20, 24, 25, 26, 31, 27},
        {2, 3, 4, 11, 12, 13, 20, 21, 22, 32},
        {18, 19, 20, 21, 22, 23, 24, 25, 26, 32, 33, 31},
    };

    private final Random chance;
    private final RiichiTable table;
    private final PlainTable plain;
    private final List<String> calls = new ArrayList<>();
    private final int most;
    private int made;
    private int[] pool;
    private final PlainTable.Score[] wonBefore = new PlainTable.Score[4];
    private int target;
    private int keeper;
    private double winWill;
    private double takeWill;
    private double riichiWill;
    private double readyWill;

    /** More calls than a new hand needs before its first turn. */
    private static final int CALLS_OF_START = 90;
    private static final long[] SEEN = new long[64];
    private static int wins;
    private static int finished;
    private static int lastTile;
    private static int several;
    private static int robbed;

    private ModelTest(long seed, int most) {
        chance = new Random(seed);
        int start = chance.nextInt(5) == 0 ? chance.nextInt(5) - 2 : chance.nextInt();
        table = new RiichiTable(start);
        plain = new PlainTable(start);
        calls.add("new RiichiTable(" + start + ")");
        this.most = most;
    }

    public static void main(String[] args) {
        long first = args.length > 0 ? Long.parseLong(args[0]) : 1;
        int games = args.length > 1 ? Integer.parseInt(args[1]) : 1000;
        int most = args.length > 2 ? Integer.parseInt(args[2]) : 512;
        int wrong = 0;
        for (long seed = first; seed < first + games && wrong < 3; seed++) {
            ModelTest game = new ModelTest(seed, most);
            try {
                game.play();
            } catch (Differs differs) {
                wrong++;
                System.out.println("seed " + seed + ": " + differs.getMessage() + "\n  after " + game.calls);
            }
        }
        System.out.println("wins " + wins + ", at the last tile " + lastTile + ", several winners " + several
                + ", robbed " + robbed + ", games finished " + finished);
        StringBuilder yaku = new StringBuilder("yaku seen:");
        for (int y = 0; y < 42; y++) yaku.append(' ').append(y).append(':').append(SEEN[y]);
        System.out.println(yaku);
        if (wrong > 0) System.exit(1);
    }

    private static final class Differs extends RuntimeException {
        private static final long serialVersionUID = 1L;

        Differs(String text) {
            super(text);
        }
    }

    private void same(String call, long got, long want) {
        made++;
        calls.add(call + "=" + got);
        if (got != want) throw new Differs(call + " answered " + got + ", due is " + want);
    }

    private static long bit(boolean b) {
        return b ? 1 : 0;
    }

    private void play() {
        boolean quick = chance.nextInt(5) == 0;
        while (made < most) {
            int before = plain.phase;
            if (before == 0 && made > most - CALLS_OF_START) break;
            if (before == 0) {
                startHand(quick);
            } else if (before == 1) {
                playTurn();
            } else if (before == 2) {
                answerClaims();
            } else if (before == 3) {
                next();
            } else {
                break;
            }
            if (before < 3 && plain.phase >= 3) noteEnd();
            if (chance.nextInt(10) == 0 && made < most) doWrong();
            look(most > 512 ? 1 : quick ? 0.004 : 0.03);
        }
        if (plain.phase == 4) {
            finished++;
            look(1);
        }
    }

    private void noteEnd() {
        int winners = 0;
        for (PlainTable.Seat s : plain.seats) {
            if (s.answer == 4) winners++;
        }
        if (winners > 1) several++;
        if (winners > 0 && plain.added) robbed++;
        if (winners == 0 && plain.left() == 0) lastTile++;
        for (int p = 0; p < 4; p++) {
            PlainTable.Score won = plain.seats[p].won;
            if (won != null && won != wonBefore[p]) {
                wins++;
                for (int y : won.yaku) SEEN[y]++;
                wonBefore[p] = won;
            }
        }
    }

    private void arrange(int place, int kind) {
        same("arrange(" + place + ", " + kind + ")", bit(table.arrange(place, kind)), bit(plain.arrange(place, kind)));
    }

    private void deal() {
        same("deal()", bit(table.deal()), bit(plain.deal()));
    }

    private void next() {
        same("next()", bit(table.next()), bit(plain.next()));
    }

    private void discard(int kind, boolean riichi) {
        same("discard(" + kind + ", " + riichi + ")", table.discard(kind, riichi), plain.discard(kind, riichi));
    }

    private void quad(int kind) {
        same("quad(" + kind + ")", table.quad(kind), plain.quad(kind));
    }

    private void win() {
        same("win()", table.win(), plain.win());
    }

    private void claim(int p, int what, int low) {
        same("claim(" + p + ", " + what + ", " + low + ")", table.claim(p, what, low), plain.claim(p, what, low));
    }

    private void startHand(boolean quick) {
        winWill = quick ? 1 : new double[] {0, 0.1, 0.5, 1}[chance.nextInt(4)];
        takeWill = chance.nextDouble();
        riichiWill = chance.nextDouble();
        readyWill = 0.5 + chance.nextDouble() / 2;
        pool = new int[34];
        Arrays.fill(pool, 4);
        target = -1;
        if (!quick && chance.nextInt(3) == 0) {
            startHunt();
            return;
        }
        if (chance.nextInt(8) != 0) {
            int[] theme = THEMES[chance.nextInt(THEMES.length)];
            int hands = quick ? 2 : 1 + chance.nextInt(4);
            int[] places = new int[136];
            Arrays.fill(places, -1);
            for (int s = 0; s < hands; s++) {
                List<Integer> hand = quick && s == 0 ? junk() : readyHand(theme);
                for (int i = 0; i < 13 && i < hand.size(); i++) places[13 * s + i] = hand.get(i);
                if (quick && hand.size() == 14) places[53] = hand.get(13);
            }
            int draws = quick ? 0 : chance.nextInt(30);
            for (int i = 0; i < draws; i++) {
                int kind = chance.nextInt(3) == 0 ? chance.nextInt(34) : theme[chance.nextInt(theme.length)];
                if (pool[kind] > 0) {
                    pool[kind]--;
                    places[52 + i] = kind;
                }
            }
            for (int place = 0; place < 136; place++) if (places[place] >= 0) arrange(place, places[place]);
        }
        deal();
    }

    /** Some wait for one kind, one has a pair of it, and one a tile of it to discard. */
    private void startHunt() {
        if (chance.nextBoolean()) winWill = 0;
        int[] theme = THEMES[chance.nextInt(THEMES.length)];
        target = 9 * chance.nextInt(3) + 2 + chance.nextInt(5);
        keeper = chance.nextInt(4);
        int giver = (keeper + 1 + chance.nextInt(3)) % 4;
        int[] places = new int[136];
        Arrays.fill(places, -1);
        pool[target] = 0;
        for (int s = 0; s < 4; s++) {
            List<Integer> hand = new ArrayList<>();
            if (s == keeper || s == giver) {
                hand.add(target);
                if (s == keeper) hand.add(target);
            } else {
                int[][] gaps = {{-2, -1}, {-1, 1}, {1, 2}};
                int[] gap = gaps[chance.nextInt(3)];
                addIfThere(hand, new int[] {target + gap[0], target + gap[1]});
                hand.addAll(setsAndPair(theme, 9));
            }
            for (int i = 0; i < 13 && i < hand.size(); i++) places[13 * s + i] = hand.get(i);
        }
        places[52 + keeper + 4 * (1 + chance.nextInt(4)) + chance.nextInt(3)] = target;
        for (int place = 0; place < 136; place++) if (places[place] >= 0) arrange(place, places[place]);
        keeper = (keeper + plain.dealer) % 4;
        deal();
    }

    private List<Integer> junk() {
        List<Integer> hand = new ArrayList<>();
        for (int i = 0; i < 13; i++) {
            int kind = (i * 3 + 1) % 34;
            pool[kind]--;
            hand.add(kind);
        }
        return hand;
    }

    private List<Integer> readyHand(int[] theme) {
        List<Integer> hand = setsAndPair(theme, 12);
        Collections.shuffle(hand, chance);
        return hand;
    }

    private List<Integer> setsAndPair(int[] theme, int inSets) {
        List<Integer> hand = new ArrayList<>();
        int sameWill = chance.nextInt(5);
        for (int tries = 0; tries < 60 && hand.size() < inSets; tries++) {
            int[] set = {0, 0, 0};
            int kind = theme[chance.nextInt(theme.length)];
            boolean run = chance.nextInt(4) >= sameWill;
            if (run && (kind >= 27 || kind % 9 > 6)) continue;
            for (int i = 0; i < 3; i++) set[i] = run ? kind + i : kind;
            addIfThere(hand, set);
        }
        for (int tries = 0; tries < 60 && hand.size() % 3 == 0; tries++) {
            int kind = theme[chance.nextInt(theme.length)];
            addIfThere(hand, new int[] {kind, kind});
        }
        return hand;
    }

    private void addIfThere(List<Integer> hand, int[] kinds) {
        for (int kind : kinds) pool[kind]--;
        boolean there = true;
        for (int kind : kinds) there &= pool[kind] >= 0;
        for (int kind : kinds) {
            if (there) hand.add(kind);
            else pool[kind]++;
        }
    }

    private void playTurn() {
        PlainTable.Seat seat = plain.seats[plain.who];
        if (plain.tile != -1 && chance.nextDouble() < winWill && plain.bestOf(plain.who, true) != null) {
            win();
            return;
        }
        for (int kind : new ArrayList<>(seat.hand)) {
            boolean triplet = false;
            for (PlainTable.Part m : seat.melds) triplet |= m.sort == 't' && m.kind == kind;
            if ((seat.count(kind) == 4 || triplet) && chance.nextDouble() < (kind == target ? 0.9 : 0.4)) {
                quad(kind);
                return;
            }
        }
        List<Integer> keepReady = new ArrayList<>();
        for (int kind : new TreeSet<>(seat.hand)) {
            seat.hand.remove((Integer) kind);
            if (!PlainTable.waitsOf(seat).isEmpty()) keepReady.add(kind);
            seat.hand.add(kind);
        }
        List<Integer> from = keepReady.isEmpty() || chance.nextDouble() > readyWill ? seat.hand : keepReady;
        int kind = from.get(chance.nextInt(from.size()));
        if (plain.who != keeper && seat.hand.contains(target) && chance.nextBoolean()) kind = target;
        if (seat.riichi > 0 && chance.nextInt(10) != 0) kind = plain.tile;
        boolean riichi = from == keepReady && seat.riichi == 0 && chance.nextDouble() < riichiWill;
        discard(kind, riichi);
    }

    private void answerClaims() {
        List<Integer> asked = new ArrayList<>();
        for (int p = 0; p < 4; p++) if (plain.seats[p].options > 0) asked.add(p);
        int p = asked.get(chance.nextInt(asked.size()));
        int options = plain.seats[p].options;
        int what = 0;
        boolean rare = plain.added || asked.size() > 1;
        if ((options & 16) != 0 && chance.nextDouble() < (rare ? 0.8 : winWill)) {
            what = 4;
        } else if (p == keeper && plain.tile == target && (options & 4) != 0) {
            what = 2;
        } else if (chance.nextDouble() < takeWill) {
            int wish = 1 + chance.nextInt(3);
            if ((options & 1 << wish) != 0) what = wish;
        }
        claim(p, what, plain.tile - chance.nextInt(3));
    }

    private void doWrong() {
        int kind = chance.nextInt(40) - 3;
        switch (chance.nextInt(8)) {
            case 0:
                if (plain.phase != 0) arrange(chance.nextInt(140) - 2, kind);
                break;
            case 1:
                if (plain.phase != 0) deal();
                break;
            case 2:
                if (plain.phase != 3) next();
                break;
            case 3:
                if (plain.phase == 1) discard(kind, chance.nextBoolean());
                break;
            case 4:
                quad(kind);
                break;
            case 5:
                claim(chance.nextInt(6) - 1, chance.nextInt(7) - 1, kind);
                break;
            default:
                if (plain.phase != 1) win();
        }
    }

    private boolean shown() {
        return plain.phase >= 1 && plain.phase <= 3;
    }

    private boolean skip(double part) {
        return made >= most || chance.nextDouble() >= part;
    }

    private void look(double part) {
        if (!skip(part)) same("phase()", table.phase(), plain.phase);
        if (!skip(part)) same("state()", table.state(), plain.x);
        boolean going = plain.phase == 1 || plain.phase == 2;
        if (!skip(part)) same("who()", table.who(), going ? plain.who : -1);
        if (!skip(part)) same("drawn()", table.drawn(), going ? plain.tile : -1);
        int[] facts = {plain.dealer, plain.round, plain.honba, plain.sticks,
            shown() ? plain.left() : 0, shown() ? plain.quads : 0, -1};
        for (int i = 0; i < 7; i++) if (!skip(part)) same("table(" + i + ")", table.table(i), facts[i]);
        for (int p = 0; p < 4; p++) lookAt(p, part);
    }

    private void lookAt(int p, double part) {
        PlainTable.Seat s = plain.seats[p];
        if (!skip(part)) same("points(" + p + ")", table.points(p), s.points);
        if (!skip(part)) same("options(" + p + ")", table.options(p), plain.phase == 2 ? s.options : 0);
        if (!skip(3 * part)) {
            long sum = 0;
            if (shown()) for (int k : PlainTable.waitsOf(s)) sum += 1L << k;
            same("waits(" + p + ")", table.waits(p), sum);
        }
        if (!skip(3 * part)) {
            same("furiten(" + p + ")", bit(table.furiten(p)), bit(shown() && plain.furitenOf(s)));
        }
        for (int k = -1; k < 35; k++) {
            if (!skip(part / 9)) same("concealed(" + p + ", " + k + ")", table.concealed(p, k), shown() ? s.count(k) : 0);
        }
        for (int i = 0; i < 5; i++) {
            boolean there = shown() && i < s.melds.size();
            if (!skip(part / 2)) same("meld(" + p + ", " + i + ")", table.meld(p, i), there ? s.melds.get(i).code() : -1);
        }
        for (int i = 0; i <= s.river.size(); i++) {
            boolean there = shown() && i < s.river.size();
            if (!skip(part / 9)) same("river(" + p + ", " + i + ")", table.river(p, i), there ? s.river.get(i) : -1);
        }
        lookAtWorth(p, s.won, plain.phase >= 3 ? Math.max(part, 0.2) : part / 9);
    }

    private void lookAtWorth(int p, PlainTable.Score won, double part) {
        int[] want = {-1, -1, -1, -1, -1};
        if (won != null) {
            want = new int[] {won.han, won.fu, won.base, won.got, -1};
        }
        for (int i = 0; i < 5; i++) {
            if (!skip(part)) same("worth(" + p + ", " + i + ")", table.worth(p, i), want[i]);
        }
        if (!skip(part)) same("yaku(" + p + ")", table.yaku(p), won == null ? 0 : won.mask());
    }
}
