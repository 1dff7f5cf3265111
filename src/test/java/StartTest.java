/** Promises 1, 2, 3 and 22, and what the other calls answer before the deal. */
public final class StartTest {
    private static final Check CHECK = new Check();

    /** The generator and the wall once more, to see places that no call shows. */
    private static final class Wall {
        int x;
        final int[] tiles = new int[136];

        Wall(int seed) {
            x = seed == 0 ? 1 : seed;
            shuffle();
        }

        void shuffle() {
            for (int t = 0; t < 136; t++) tiles[t] = t;
            for (int i = 135; i >= 1; i--) {
                x ^= x << 13;
                x ^= x >>> 17;
                x ^= x << 5;
                swap(i, (x & Integer.MAX_VALUE) % (i + 1));
            }
        }

        void swap(int i, int j) {
            int t = tiles[i];
            tiles[i] = tiles[j];
            tiles[j] = t;
        }

        boolean arrange(int place, int kind) {
            for (int i = place; i < 136; i++) {
                if (tiles[i] / 4 == kind) {
                    swap(i, place);
                    return true;
                }
            }
            return false;
        }
    }

    public static void main(String[] args) {
        newObjects();
        phaseWall();
        arranging();
        badArranging();
        dealing();
        laterHands();
        CHECK.end();
    }

    private static void newObjects() {
        CHECK.due("state of seed 1", new RiichiTable(1).state(), -633687712);
        for (int seed : new int[] {1, 0, 2, 5, -1, -3, 123456789, Integer.MAX_VALUE, Integer.MIN_VALUE}) {
            RiichiTable table = new RiichiTable(seed);
            Wall wall = new Wall(seed);
            CHECK.due("seed " + seed + " state", table.state(), wall.x);
            CHECK.due("seed " + seed + " phase", table.phase(), 0);
            CHECK.due("seed " + seed + " deal", table.deal(), true);
            CHECK.due("seed " + seed + " state after the deal", table.state(), wall.x);
            sameHands("seed " + seed, table, wall, 0);
        }
    }

    private static void sameHands(String name, RiichiTable table, Wall wall, int dealer) {
        int[][] hands = new int[4][34];
        for (int i = 0; i < 52; i++) hands[(dealer + i / 13) % 4][wall.tiles[i] / 4]++;
        hands[dealer][wall.tiles[52] / 4]++;
        for (int p = 0; p < 4; p++) {
            for (int k = 0; k < 34; k++) {
                CHECK.due(name + " concealed " + p + " " + k, table.concealed(p, k), hands[p][k]);
            }
        }
        CHECK.due(name + " drawn", table.drawn(), wall.tiles[52] / 4);
    }

    private static void phaseWall() {
        RiichiTable table = new RiichiTable(77);
        CHECK.due("who", table.who(), -1);
        CHECK.due("drawn", table.drawn(), -1);
        for (int p = -1; p <= 4; p++) {
            boolean there = p >= 0 && p < 4;
            CHECK.due("options " + p, table.options(p), there ? 0 : -1);
            CHECK.due("points " + p, table.points(p), there ? 30000 : 0);
            CHECK.due("concealed " + p, table.concealed(p, 0), 0);
            CHECK.due("meld " + p, table.meld(p, 0), -1);
            CHECK.due("river " + p, table.river(p, 0), -1);
            CHECK.due("waits " + p, table.waits(p), 0);
            CHECK.due("furiten " + p, table.furiten(p), false);
            CHECK.due("worth " + p, table.worth(p, 0), -1);
            CHECK.due("yaku " + p, table.yaku(p), 0);
            CHECK.due("claim " + p, table.claim(p, 0, 0), -1);
        }
        for (int what = -1; what <= 6; what++) {
            CHECK.due("table " + what, table.table(what), what < 0 || what > 5 ? -1 : 0);
        }
        CHECK.due("discard", table.discard(0, false), -1);
        CHECK.due("quad", table.quad(0), -1);
        CHECK.due("win", table.win(), -1);
        CHECK.due("next", table.next(), false);
        CHECK.due("phase after all this", table.phase(), 0);
        CHECK.due("state after all this", table.state(), new Wall(77).x);
        CHECK.due("deal", table.deal(), true);
        sameHands("untouched", table, new Wall(77), 0);
    }

    private static void arranging() {
        RiichiTable table = new RiichiTable(31);
        Wall wall = new Wall(31);
        int[][] wishes = {{0, 33}, {0, 33}, {1, 33}, {12, 5}, {51, 0}, {52, 27}, {3, 14}, {2, 14}, {40, 14}, {7, 20}};
        for (int[] wish : wishes) {
            boolean got = table.arrange(wish[0], wish[1]);
            CHECK.due("arrange " + wish[0] + " " + wish[1], got, wall.arrange(wish[0], wish[1]));
        }
        for (int place = 135; place >= 100; place--) {
            for (int kind = 0; kind < 34; kind += 11) {
                CHECK.due("arrange " + place + " " + kind, table.arrange(place, kind), wall.arrange(place, kind));
            }
        }
        CHECK.due("state after arrange", table.state(), wall.x);
        table.deal();
        sameHands("arranged", table, wall, 0);
    }

    private static void badArranging() {
        RiichiTable table = new RiichiTable(4);
        int[][] bad = {{-1, 0}, {136, 0}, {0, -1}, {0, 34}, {Integer.MIN_VALUE, 3}, {Integer.MAX_VALUE, 3},
            {5, Integer.MIN_VALUE}, {5, Integer.MAX_VALUE}};
        for (int[] wish : bad) CHECK.due("arrange " + wish[0] + " " + wish[1], table.arrange(wish[0], wish[1]), false);
        for (int i = 0; i < 4; i++) CHECK.due("arrange east " + i, table.arrange(i, 27), true);
        CHECK.due("no fifth east", table.arrange(4, 27), false);
        CHECK.due("east from place 3", table.arrange(3, 27), true);
        CHECK.due("place 135", table.arrange(135, 27), false);
        table.deal();
        CHECK.due("easts", table.concealed(0, 27), 4);
        CHECK.due("arrange in a turn", table.arrange(60, 3), false);
    }

    private static void dealing() {
        RiichiTable table = new Scene().hand(0, "123456789m 1234p").hand(1, "56789p 12345678s")
                .hand(2, "9s 1234567z 11122m").hand(3, "3334445556667m").draws("7p 1z").deal();
        CHECK.due("phase", table.phase(), 1);
        CHECK.due("who", table.who(), 0);
        CHECK.due("drawn", table.drawn(), Scene.kind("7p"));
        CHECK.due("concealed with the drawn one", table.concealed(0, Scene.kind("7p")), 1);
        CHECK.due("left", table.table(4), 69);
        CHECK.due("quads", table.table(5), 0);
        CHECK.due("hand 1", table.concealed(1, Scene.kind("9p")), 1);
        CHECK.due("hand 2", table.concealed(2, Scene.kind("1m")), 3);
        CHECK.due("hand 3", table.concealed(3, Scene.kind("7m")), 1);
        CHECK.due("wrong kind", table.concealed(3, 34), 0);
        CHECK.due("wrong kind", table.concealed(3, -1), 0);
        CHECK.due("wrong player", table.concealed(4, 0), 0);
        CHECK.due("wrong player", table.concealed(-1, 0), 0);
        CHECK.due("second deal", table.deal(), false);
        CHECK.due("next in a turn", table.next(), false);
        CHECK.due("second drawn", table.discard(Scene.kind("7p"), false) >= 1, true);
    }

    /** The dealer of the second hand has the first 13 places, and the generator goes on. */
    private static void laterHands() {
        Scene orphans = new Scene().hand(1, "19m 19p 19s 1234567z").draws("5m 1m");
        RiichiTable table = orphans.deal();
        Scene.letGo(table, Scene.kind("5m"));
        CHECK.due("win", table.win(), 13);
        CHECK.due("deal in OVER", table.deal(), false);
        CHECK.due("arrange in OVER", table.arrange(0, 0), false);
        CHECK.due("dealer", table.table(0), 1);
        Wall wall = new Wall(9);
        wall.shuffle();
        CHECK.due("next", table.next(), true);
        CHECK.due("next once more", table.next(), false);
        CHECK.due("phase", table.phase(), 0);
        CHECK.due("state", table.state(), wall.x);
        CHECK.due("no hands before the deal", table.concealed(1, 0), 0);
        CHECK.due("no left before the deal", table.table(4), 0);
        CHECK.due("deal", table.deal(), true);
        CHECK.due("who", table.who(), 1);
        CHECK.due("left", table.table(4), 69);
        sameHands("second hand", table, wall, 1);
    }
}
