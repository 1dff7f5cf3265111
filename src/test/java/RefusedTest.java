import java.util.ArrayList;
import java.util.List;
import java.util.Random;

/**
 * Hands are played by chance; at every step the same hand is played again on a
 * new object up to there, with calls that are refused then: what it tells is
 * as before, and the rest of the hand goes on as it did.
 */
public final class RefusedTest {
    private static final Check CHECK = new Check();
    private static final int MOST_CALLS = 512;

    private static final int ARRANGE = 0;
    private static final int DEAL = 1;
    private static final int DISCARD = 2;
    private static final int RIICHI = 3;
    private static final int QUAD = 4;
    private static final int WIN = 5;
    private static final int CLAIM = 6;
    private static final int NEXT = 7;

    private final Random chance;
    private final int seed;
    private final List<int[]> moves = new ArrayList<>();
    private final List<Integer> answers = new ArrayList<>();
    private static final int[] REFUSED = new int[8];

    private RefusedTest(int seed) {
        this.seed = seed;
        chance = new Random(seed);
    }

    public static void main(String[] args) {
        CHECK.sentence("A call that isn't allowed answers BAD or false and changes nothing.");
        int games = args.length > 0 ? Integer.parseInt(args[0]) : 40;
        for (int seed = 0; seed < games; seed++) {
            RefusedTest game = new RefusedTest(seed);
            game.play();
            game.repeat();
        }
        inRiichi();
        String[] names = {"arrange", "deal", "discard", "riichi", "quad", "win", "claim", "next"};
        for (int i = 0; i < names.length; i++) CHECK.due(names[i] + " was refused", REFUSED[i] > 50, true);
        CHECK.sentence("An object is used for at most 512 calls after it has been made");
        manyCalls();
        CHECK.end();
    }

    /** What riichi has brought is still there behind all calls that are refused in it. */
    private static void inRiichi() {
        for (int refuse = 0; refuse < 2; refuse++) {
            RiichiTable table = new Scene().hand(0, "234m 678m 345p 67s 99p").hand(1, "147m 258p 369s 345z").hand(2, "147m 258p 369s 345z")
                    .hand(3, "147m 258p 369s 345z").draws("1z 2z 2z 2z 5s").indicators("1s", "1s").deal();
            table.discard(Scene.kind("1z"), true);
            for (int turn = 0; turn < 4; turn++) {
                if (refuse == 1 && turn % 2 == 1) refuseAll(table);
                if (turn < 3) Scene.letGoDrawn(table, 1);
            }
            CHECK.due("won in riichi, refused " + refuse, table.win(), 5);
            CHECK.due("its yaku, refused " + refuse, table.yaku(0), Check.bits(1, 2, 3, 8));
        }
    }

    private static void refuseAll(RiichiTable table) {
        int who = table.who();
        for (int kind = 0; kind < 34; kind++) {
            boolean held = table.concealed(who, kind) > 0;
            if (!held || who == 0 && kind != table.drawn()) CHECK.due("discard", table.discard(kind, false), -1);
            CHECK.due("riichi", table.discard(kind, true), -1);
            CHECK.due("quad", table.quad(kind), -1);
        }
        for (int p = 0; p < 4; p++) for (int what = 0; what < 5; what++) CHECK.due("claim", table.claim(p, what, 0), -1);
        CHECK.due("deal", table.deal(), false);
        CHECK.due("next", table.next(), false);
        CHECK.due("arrange", table.arrange(60, 5), false);
        if (who != 0) CHECK.due("win", table.win(), -1);
    }

    private static int call(RiichiTable table, int[] move) {
        switch (move[0]) {
            case ARRANGE:
                return table.arrange(move[1], move[2]) ? 1 : -1;
            case DEAL:
                return table.deal() ? 1 : -1;
            case DISCARD:
                return table.discard(move[1], false);
            case RIICHI:
                return table.discard(move[1], true);
            case QUAD:
                return table.quad(move[1]);
            case WIN:
                return table.win();
            case CLAIM:
                return table.claim(move[1], move[2], move[3]);
            default:
                return table.next() ? 1 : -1;
        }
    }

    private static int callPlain(PlainTable table, int[] move) {
        switch (move[0]) {
            case ARRANGE:
                return table.arrange(move[1], move[2]) ? 1 : -1;
            case DEAL:
                return table.deal() ? 1 : -1;
            case DISCARD:
                return table.discard(move[1], false);
            case RIICHI:
                return table.discard(move[1], true);
            case QUAD:
                return table.quad(move[1]);
            case WIN:
                return table.win();
            case CLAIM:
                return table.claim(move[1], move[2], move[3]);
            default:
                return table.next() ? 1 : -1;
        }
    }

    /** Keeps a move that is allowed. */
    private boolean make(PlainTable table, int... move) {
        int answer = callPlain(table, move);
        if (answer == -1) return false;
        moves.add(move);
        answers.add(answer);
        return true;
    }

    private void play() {
        PlainTable table = new PlainTable(seed);
        String[] hands = {"234m 678m 345p 67s 99p", "55z 46p 33m 789s 222s 7p", "77z 88p 99m 666s 13s 55p", "19m 19p 19s 1234567z"};
        for (int s = 0; s < 4 && seed % 3 != 0; s++) {
            int[] kinds = Scene.kinds(hands[(s + seed) % 4]);
            for (int i = 0; i < 13; i++) make(table, ARRANGE, 13 * s + i, kinds[i]);
        }
        make(table, DEAL);
        boolean ends = seed % 4 == 1;
        for (int i = 0; i < 140 && table.phase < 3; i++) {
            if (table.phase == 1) turn(table, ends);
            else answer(table, ends);
        }
        if (make(table, NEXT)) make(table, DEAL);
    }

    private void turn(PlainTable table, boolean ends) {
        if (ends && chance.nextInt(3) == 0 && make(table, WIN)) return;
        for (int kind = 0; kind < 34; kind++) if (chance.nextInt(3) == 0 && make(table, QUAD, kind)) return;
        for (int kind = 0; kind < 34; kind++) if (chance.nextInt(8) == 0 && make(table, RIICHI, kind)) return;
        int from = chance.nextInt(34);
        int wish = chance.nextInt(3) == 0 ? from : table.tile;
        for (int i = 0; i < 35; i++) if (make(table, DISCARD, i == 0 ? wish : (from + i) % 34)) return;
    }

    private void answer(PlainTable table, boolean ends) {
        int p = chance.nextInt(4);
        int what = chance.nextInt(ends ? 5 : 4);
        make(table, CLAIM, p, what, table.tile - chance.nextInt(3));
    }

    private void repeat() {
        for (int step = 0; step <= moves.size(); step++) {
            if (step < moves.size() && moves.get(step)[0] == ARRANGE && step % 9 != 0) continue;
            RiichiTable table = replay(step);
            List<int[]> refused = refusedAt(table, step);
            RiichiTable plain = replay(step);
            RiichiTable tried = replay(step);
            int made = step;
            for (int[] move : refused) {
                REFUSED[move[0]]++;
                CHECK.due("seed " + seed + " step " + step + " call " + move[0], call(tried, move), -1);
                made++;
            }
            same(step, tried, plain);
            made += 220;
            for (int i = step; i < moves.size() && made < MOST_CALLS - 30; i++) {
                CHECK.due("seed " + seed + " refused at " + step + ", then move " + i, call(tried, moves.get(i)), answers.get(i));
                call(plain, moves.get(i));
                made++;
            }
            for (int p = 0; p < 4; p++) {
                CHECK.due("points then", tried.points(p), plain.points(p));
                CHECK.due("yaku then", tried.yaku(p), plain.yaku(p));
                CHECK.due("furiten then", tried.furiten(p), plain.furiten(p));
            }
        }
    }

    private RiichiTable replay(int steps) {
        RiichiTable table = new RiichiTable(seed);
        for (int i = 0; i < steps; i++) call(table, moves.get(i));
        return table;
    }

    /** Some calls of each sort that the table refuses; each that it allows is tried on an object of its own. */
    private List<int[]> refusedAt(RiichiTable start, int step) {
        List<int[]> found = new ArrayList<>();
        RiichiTable table = start;
        for (int i = 0; i < 90; i++) {
            int[] move = anyCall(table, i);
            if (call(table, move) == -1) found.add(move);
            else table = replay(step);
        }
        return found;
    }

    private int[] anyCall(RiichiTable table, int i) {
        int kind = chance.nextInt(4) == 0 ? chance.nextInt(38) - 2 : chance.nextInt(34);
        int phase = table.phase();
        switch (i % 9) {
            case 0:
                return new int[] {ARRANGE, phase == 0 ? 136 + chance.nextInt(3) : chance.nextInt(136), kind};
            case 1:
                return phase == 0 ? new int[] {ARRANGE, chance.nextInt(136), 34} : new int[] {DEAL};
            case 2:
                return new int[] {DISCARD, phase == 1 && table.concealed(table.who(), kind) > 0 ? -1 : kind};
            case 3:
            case 4:
                return new int[] {RIICHI, kind};
            case 5:
                return new int[] {QUAD, kind};
            case 6:
                return new int[] {WIN};
            case 7:
                return new int[] {CLAIM, chance.nextInt(6) - 1, chance.nextInt(7) - 1, kind};
            default:
                return phase == 3 ? new int[] {WIN} : new int[] {NEXT};
        }
    }

    private void same(int step, RiichiTable tried, RiichiTable plain) {
        String name = "seed " + seed + " refused at " + step + ": ";
        CHECK.due(name + "phase", tried.phase(), plain.phase());
        CHECK.due(name + "who", tried.who(), plain.who());
        CHECK.due(name + "drawn", tried.drawn(), plain.drawn());
        CHECK.due(name + "state", tried.state(), plain.state());
        for (int i = 0; i < 6; i++) CHECK.due(name + "table " + i, tried.table(i), plain.table(i));
        for (int p = 0; p < 4; p++) {
            CHECK.due(name + "points", tried.points(p), plain.points(p));
            CHECK.due(name + "options", tried.options(p), plain.options(p));
            CHECK.due(name + "waits", tried.waits(p), plain.waits(p));
            CHECK.due(name + "furiten", tried.furiten(p), plain.furiten(p));
            CHECK.due(name + "worth", tried.worth(p, 3), plain.worth(p, 3));
            CHECK.due(name + "yaku", tried.yaku(p), plain.yaku(p));
            for (int i = 0; i < 4; i++) CHECK.due(name + "meld", tried.meld(p, i), plain.meld(p, i));
            if (step % 2 == 0) {
                for (int i = 0; i < 34; i++) CHECK.due(name + "concealed", tried.concealed(p, i), plain.concealed(p, i));
            } else {
                for (int i = 0; i < 25; i++) CHECK.due(name + "river", tried.river(p, i), plain.river(p, i));
            }
        }
    }

    /** The 512th call is answered like those before it. */
    private static void manyCalls() {
        RiichiTable table = new RiichiTable(1);
        table.deal();
        int drawn = table.drawn();
        for (int i = 3; i < MOST_CALLS; i++) CHECK.due("call " + i, table.drawn(), drawn);
        CHECK.due("call 512", table.discard(drawn, false) > 0, true);
        table = new RiichiTable(1);
        for (int i = 1; i < MOST_CALLS; i++) CHECK.due("call " + i, table.arrange(i % 136, 34), false);
        CHECK.due("call 512", table.deal(), true);
    }
}
