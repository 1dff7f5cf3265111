/** Promises 7 and 8, and how claims are settled. */
public final class ClaimTest {
    private static final Check CHECK = new Check();
    private static final int RUN = 2;
    private static final int TRIPLET = 4;
    private static final int QUAD = 8;
    private static final int WIN = 16;
    private static final String QUIET = "147m 258p 369s 3456z";

    public static void main(String[] args) {
        runs();
        wrongRuns();
        triplets();
        quads();
        everybody();
        orderOfAnswers();
        wrongAnswers();
        severalWinners();
        atTheEnd();
        inRiichi();
        CHECK.end();
    }

    private static int k(String text) {
        return Scene.kind(text);
    }

    private static void options(String name, RiichiTable table, int... want) {
        for (int p = 0; p < 4; p++) CHECK.due(name + ": options of " + p, table.options(p), want[p]);
    }

    private static RiichiTable fiveOfP(String hand1) {
        return new Scene().hand(0, "5p 1m 9m 9s 1s").hand(1, hand1).hand(2, "3467p 147m 258s 345z").hand(3, QUIET)
                .draws("1z 2z 2z 2z").deal();
    }

    private static void runs() {
        RiichiTable table = fiveOfP("3467p 147m 258s 345z");
        CHECK.due("discard", table.discard(k("5p"), false), 2);
        CHECK.due("who", table.who(), 0);
        CHECK.due("the tile", table.drawn(), k("5p"));
        options("run for the next alone", table, 0, RUN, 0, 0);
        CHECK.due("run", table.claim(1, 1, k("4p")), 1);
        CHECK.due("meld", table.meld(1, 0), 4 * k("4p"));
        CHECK.due("who", table.who(), 1);
        CHECK.due("nothing drawn", table.drawn(), -1);
        CHECK.due("4p is gone", table.concealed(1, k("4p")), 0);
        CHECK.due("6p is gone", table.concealed(1, k("6p")), 0);
        CHECK.due("3p stays", table.concealed(1, k("3p")), 1);
        CHECK.due("5p never came", table.concealed(1, k("5p")), 0);
        CHECK.due("river keeps it", table.river(0, 0), k("5p"));
        CHECK.due("no options left", table.options(1), 0);
        CHECK.due("nothing was drawn", table.table(4), 69);
        CHECK.due("one to discard: no waits", table.waits(1), 0);
        CHECK.due("discard", table.discard(k("1m"), false) > 0, true);
        Scene.pass(table);
        CHECK.due("goes on behind the taker", table.who(), 2);
        CHECK.due("drawn", table.drawn(), k("2z"));

        for (String low : new String[] {"3p", "5p"}) {
            table = fiveOfP("3467p 147m 258s 345z");
            table.discard(k("5p"), false);
            CHECK.due("run of " + low, table.claim(1, 1, k(low)), 1);
            CHECK.due("meld of " + low, table.meld(1, 0), 4 * k(low));
        }
        for (String hand : new String[] {"34p", "46p", "67p"}) {
            table = fiveOfP(hand + " 159m 159s 345z 7z 6z");
            table.discard(k("5p"), false);
            CHECK.due("run with " + hand, table.options(1), RUN);
        }
        for (String hand : new String[] {"37p", "36p", "47p"}) {
            table = fiveOfP(hand + " 159m 159s 345z 7z 6z");
            CHECK.due("no run with " + hand, table.discard(k("5p"), false), 1);
        }
    }

    private static void wrongRuns() {
        RiichiTable table = fiveOfP("34p 2259m 159s 345z 7z");
        table.discard(k("5p"), false);
        int[] lows = {k("4p"), k("5p"), k("2p"), k("6p"), -1, 27, 34, 100, Integer.MIN_VALUE, Integer.MAX_VALUE, k("3m")};
        for (int low : lows) CHECK.due("run of " + low, table.claim(1, 1, low), -1);
        options("still asked", table, 0, RUN, 0, 0);
        CHECK.due("run", table.claim(1, 1, k("3p")), 1);

        // Runs that are whole without the tile do not take it.
        table = fiveOfP("234678p 123m 159s 7z");
        table.discard(k("5p"), false);
        for (String low : new String[] {"2p", "6p", "1m"}) CHECK.due("run of " + low, table.claim(1, 1, k(low)), -1);
        CHECK.due("run", table.claim(1, 1, k("5p")), 1);

        // The first and the last run of a suit.
        String[][] ends = {{"1m", "23m", "1m"}, {"3m", "12m", "1m"}, {"9s", "78s", "7s"}, {"7p", "89p", "7p"}};
        for (String[] end : ends) {
            table = new Scene().hand(0, end[0]).hand(1, end[1] + "3456z").hand(2, QUIET).draws("1z").deal();
            table.discard(k(end[0]), false);
            CHECK.due("run of " + end[2], table.claim(1, 1, k(end[2])), 1);
            CHECK.due("meld of " + end[2], table.meld(1, 0), 4 * k(end[2]));
        }

        // No run reaches from 9 to 1, nor into another suit, nor are there runs of honours.
        table = new Scene().hand(0, "9m 1p 2z 5z").hand(1, "8m 1m 1p 2p 67z 13z").hand(2, QUIET).hand(3, QUIET)
                .draws("7s").deal();
        CHECK.due("9m with 8m and 1p", table.discard(k("9m"), false), 1);
        table = new Scene().hand(0, "2z").hand(1, "13z 4z 147m 258p 369s").hand(2, QUIET).hand(3, QUIET)
                .draws("7s").deal();
        CHECK.due("honours", table.discard(k("2z"), false), 1);
        table = new Scene().hand(0, "8m").hand(1, "9m 1p 147p 369s").hand(2, QUIET).hand(3, QUIET).draws("7s").deal();
        CHECK.due("8m 9m 1p", table.discard(k("8m"), false), 1);
    }

    private static void triplets() {
        for (int taker = 1; taker < 4; taker++) {
            Scene scene = new Scene().hand(0, "7z 1m 9m").draws("1z 2z");
            for (int p = 1; p < 4; p++) scene.hand(p, p == taker ? "77z 147m 258p 369s 35z" : QUIET);
            RiichiTable table = scene.deal();
            CHECK.due("discard", table.discard(k("7z"), false), 2);
            CHECK.due("triplet of " + taker, table.options(taker), TRIPLET);
            CHECK.due("taken", table.claim(taker, 2, 99), 1);
            CHECK.due("who", table.who(), taker);
            CHECK.due("drawn", table.drawn(), -1);
            CHECK.due("meld", table.meld(taker, 0), 4 * k("7z") + 1);
            CHECK.due("gone", table.concealed(taker, k("7z")), 0);
            CHECK.due("quads", table.table(5), 0);
        }
        RiichiTable table = new Scene().hand(0, "7z").hand(1, "7z 147m 258p 369s 345z").draws("1z").deal();
        CHECK.due("one is not enough", table.discard(k("7z"), false), 1);
    }

    private static RiichiTable sevens() {
        return new Scene().hand(0, "7z 1m 9m").hand(1, QUIET).hand(2, "777z 147m 258p 369s 5z").hand(3, QUIET)
                .draws("1z 2z").replacements("6z").deal();
    }

    private static void quads() {
        RiichiTable table = sevens();
        table.discard(k("7z"), false);
        options("quad and triplet", table, 0, 0, TRIPLET + QUAD, 0);
        CHECK.due("quad", table.claim(2, 3, 0), 1);
        CHECK.due("meld", table.meld(2, 0), 4 * k("7z") + 2);
        CHECK.due("who", table.who(), 2);
        CHECK.due("replacement", table.drawn(), k("6z"));
        CHECK.due("quads", table.table(5), 1);
        CHECK.due("left", table.table(4), 68);
        CHECK.due("gone", table.concealed(2, k("7z")), 0);
        CHECK.due("replacement is concealed", table.concealed(2, k("6z")), 1);

        table = sevens();
        table.discard(k("7z"), false);
        CHECK.due("triplet instead", table.claim(2, 2, 0), 1);
        CHECK.due("one is left", table.concealed(2, k("7z")), 1);
        CHECK.due("no quad with nothing drawn", table.quad(k("7z")), -1);
    }

    /** Player 1 may take a run, player 2 a triplet, player 3 may win. */
    private static RiichiTable everybodyWants() {
        return new Scene().hand(0, "5p 1m 9m").hand(1, "46p 159m 159s 345z 7z 6z")
                .hand(2, "55p 147m 369s 3467z 9m").hand(3, "345m 678m 34p 678s 88s")
                .draws("1z 2z").indicators("1z", "").deal();
    }

    private static void everybody() {
        int[] whats = {1, 2, 4};
        for (int answers = 0; answers < 8; answers++) {
            RiichiTable table = everybodyWants();
            table.discard(k("5p"), false);
            options("all three", table, 0, RUN, TRIPLET, WIN);
            for (int p = 1; p < 4; p++) {
                boolean wants = (answers >> p - 1 & 1) != 0;
                CHECK.due("answer of " + p, table.claim(p, wants ? whats[p - 1] : 0, k("4p")),
                        p < 3 ? 2 : answers >= 4 ? 3 : 1);
                if (p < 3) CHECK.due("nothing is settled", table.meld(1, 0) + table.meld(2, 0), -2);
                if (p < 3) CHECK.due("answered", table.options(p), 0);
            }
            String name = "answers " + answers;
            CHECK.due(name + " run", table.meld(1, 0), answers == 1 ? 4 * k("4p") : -1);
            CHECK.due(name + " triplet", table.meld(2, 0), answers == 2 || answers == 3 ? 4 * k("5p") + 1 : -1);
            CHECK.due(name + " yaku", table.yaku(3), answers >= 4 ? Check.bits(8, 24) : 0);
            int[] whose = {1, 1, 2, 2, -1, -1, -1, -1};
            CHECK.due(name + " who", table.who(), whose[answers]);
            CHECK.due(name + " drawn", table.drawn(), answers == 0 ? k("2z") : -1);
            CHECK.due(name + " phase", table.phase(), answers >= 4 ? 3 : 1);
        }
    }

    private static void orderOfAnswers() {
        int[][] orders = {{1, 2, 3}, {1, 3, 2}, {2, 1, 3}, {2, 3, 1}, {3, 1, 2}, {3, 2, 1}};
        for (int[] order : orders) {
            RiichiTable table = everybodyWants();
            table.discard(k("5p"), false);
            for (int p : order) table.claim(p, p == 3 ? 0 : p, k("4p"));
            CHECK.due("the triplet before the run", table.who(), 2);
            CHECK.due("furiten by it", table.furiten(3), true);
        }
    }

    private static void wrongAnswers() {
        RiichiTable table = everybodyWants();
        table.discard(k("5p"), false);
        int[][] bad = {{0, 0}, {-1, 0}, {4, 0}, {1, 2}, {1, 3}, {1, 4}, {2, 1}, {2, 3}, {2, 4}, {3, 1}, {3, 2}, {3, 3},
            {1, 5}, {1, -1}, {2, Integer.MAX_VALUE}, {Integer.MIN_VALUE, 1}};
        for (int[] answer : bad) {
            CHECK.due("claim " + answer[0] + " " + answer[1], table.claim(answer[0], answer[1], k("4p")), -1);
        }
        options("nothing came of it", table, 0, RUN, TRIPLET, WIN);
        CHECK.due("wrong player", table.options(4), -1);
        CHECK.due("wrong player", table.options(-1), -1);
        CHECK.due("discard in claims", table.discard(k("1m"), false), -1);
        CHECK.due("quad in claims", table.quad(k("1m")), -1);
        CHECK.due("win in claims", table.win(), -1);
        CHECK.due("deal in claims", table.deal(), false);
        CHECK.due("next in claims", table.next(), false);
        CHECK.due("arrange in claims", table.arrange(100, 3), false);
        CHECK.due("answer", table.claim(2, 0, 0), 2);
        CHECK.due("answered once", table.claim(2, 0, 0), -1);
        CHECK.due("answered once", table.claim(2, 2, 0), -1);
    }

    private static void severalWinners() {
        Scene scene = new Scene().hand(0, "5p 1m 9m").hand(1, "345m 678m 34p 678s 88s").hand(2, "234m 678m 46p 345s 22s")
                .hand(3, "567m 234s 67p 456s 77s").draws("1z 2z").indicators("1z", "");
        RiichiTable table = scene.deal();
        table.discard(k("5p"), false);
        for (int p = 1; p < 4; p++) CHECK.due("win of " + p, table.options(p) & WIN, WIN);
        CHECK.due("first", table.claim(3, 4, 0), 2);
        CHECK.due("second", table.claim(1, 4, 0), 2);
        CHECK.due("third", table.claim(2, 4, 0), 3);
        CHECK.due("yaku of 1", table.yaku(1), Check.bits(8, 24));
        CHECK.due("yaku of 2", table.yaku(2), Check.bits(24));
        CHECK.due("yaku of 3", table.yaku(3), Check.bits(8, 24));
        CHECK.due("points of 1", table.points(1), 32000);
        CHECK.due("points of 2", table.points(2), 31300);
        CHECK.due("points of 3", table.points(3), 32000);
        CHECK.due("points of 0", table.points(0), 24700);

        table = scene.deal();
        table.discard(k("5p"), false);
        table.claim(1, 0, 0);
        table.claim(2, 4, 0);
        CHECK.due("the last one lets go", table.claim(3, 0, 0), 3);
        CHECK.due("one wins", table.points(2), 31300);
        CHECK.due("the others don't", table.worth(1, 0), -1);
    }

    /** With LEFT 0 a discard can only be won. */
    private static void atTheEnd() {
        Scene scene = new Scene().hand(0, "147m 258p 369s 3456z").hand(1, "5p 147m 28p 369s 3457z")
                .hand(2, "46p 55p 22p 147m 369s 1z").hand(3, "345m 678m 34p 678s 88s");
        Scene other = new Scene().hand(0, "5p 147m 28p 369s 3457z").hand(1, "46p 55p 22p 147m 369s 1z")
                .hand(2, "147m 258p 369s 3456z").hand(3, "345m 678m 34p 678s 88s");
        RiichiTable early = other.deal();
        Scene.letGoDrawn(early, 68);
        CHECK.due("left", early.table(4), 1);
        CHECK.due("discard", early.discard(k("5p"), false), 2);
        options("left 1", early, 0, RUN + TRIPLET, 0, WIN);
        for (int left = 0; left < 2; left++) {
            RiichiTable table = scene.deal();
            Scene.letGoDrawn(table, left == 0 ? 69 : 65);
            CHECK.due("who", table.who(), 1);
            CHECK.due("left", table.table(4), left == 0 ? 0 : 4);
            CHECK.due("discard", table.discard(k("5p"), false), 2);
            options("left " + table.table(4), table, 0, 0, left == 0 ? 0 : RUN + TRIPLET, WIN);
        }
    }

    private static void inRiichi() {
        RiichiTable table = new Scene().hand(0, "4p 1m 9m").hand(1, "33m 44p 56p 678m 99s 78s").hand(2, QUIET).hand(3, QUIET)
                .draws("2z 7z 2z 7z 2z").deal();
        Scene.letGo(table, k("2z"));
        Scene.letGoDrawn(table, 3);
        CHECK.due("discard", table.discard(k("4p"), false), 2);
        options("not in riichi", table, 0, RUN + TRIPLET, 0, 0);

        table = new Scene().hand(0, "4p 1m 9m").hand(1, "444p 56p 678m 99s 678s").hand(2, QUIET).hand(3, QUIET)
                .draws("2z 7z 2z 7z 2z").deal();
        Scene.letGo(table, k("2z"));
        CHECK.due("riichi", table.discard(k("7z"), true), 1);
        Scene.letGoDrawn(table, 2);
        CHECK.due("who", table.who(), 0);
        CHECK.due("4p could be won, and nothing else", table.discard(k("4p"), false), 2);
        options("in riichi", table, 0, WIN, 0, 0);
    }
}
