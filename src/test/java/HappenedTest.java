/** Promises 6, 8, 20 and 21: the yaku by what happened, and dora. */
public final class HappenedTest {
    private static final Check CHECK = new Check();
    private static final String QUIET = "147m 258p 369s 345z";
    /** Ready for 5s and 8s, with yaku 8. */
    private static final String READY = "234m 678m 345p 67s 99p";
    /** Has a 5s, and no use for what is discarded here. */
    private static final String FEEDER = "5s 147m 258p 34z 1s 2s";

    public static void main(String[] args) {
        firstGoRound();
        doubleRiichi();
        riichi();
        freshEnds();
        replacements();
        lastTiles();
        openHands();
        riichiAlone();
        dora();
        doraBehindQuads();
        doraOfKinds();
        CHECK.end();
    }

    private static int k(String text) {
        return Scene.kind(text);
    }

    private static void worth(String name, RiichiTable table, int p, long yaku, int... what) {
        CHECK.due(name + " yaku", table.yaku(p), yaku);
        for (int i = 0; i < what.length; i++) CHECK.due(name + " worth " + i, table.worth(p, i), what[i]);
    }

    private static Scene scene() {
        return new Scene().hand(1, FEEDER).hand(2, QUIET).hand(3, QUIET).indicators("1122s", "9999m");
    }

    private static void firstGoRound() {
        RiichiTable table = scene().hand(0, READY).draws("5s").deal();
        CHECK.due("dealer", table.win(), 13);
        worth("dealer", table, 0, Check.bits(40), 13, 30, 8000, 48000);

        for (int p = 1; p < 4; p++) {
            table = scene().hand(0, QUIET).hand(p, READY).draws("7z 7z 7z").put(52 + p, "5s").deal();
            Scene.letGoDrawn(table, p);
            CHECK.due("player " + p, table.win(), 13);
            worth("player " + p, table, p, Check.bits(41), 13, 30, 8000, 32000);
        }

        table = scene().hand(0, "7z 147m 258p 369s 346z").hand(1, "77z 147m 258p 369s 34z").hand(2, READY)
                .draws("6z 5s").deal();
        table.discard(k("7z"), false);
        table.claim(1, 2, 0);
        Scene.letGo(table, k("3z"));
        CHECK.due("who", table.who(), 2);
        CHECK.due("not after a call", table.win(), 2);
        worth("not after a call", table, 2, Check.bits(3, 8), 2, 20, 320, 1500);

        table = scene().hand(0, "7777z 147m 258p 369s").hand(1, READY).draws("6z 5s").replacements("6z").deal();
        table.quad(k("7z"));
        Scene.letGo(table, k("6z"));
        CHECK.due("not after a quad", table.win(), 2);
        worth("not after a quad", table, 1, Check.bits(3, 8), 2, 20, 320, 1500);

        table = scene().hand(0, READY).draws("1z 7z 6z 7z 5s").deal();
        Scene.letGoDrawn(table, 4);
        CHECK.due("not after a discard", table.win(), 2);
    }

    private static void doubleRiichi() {
        RiichiTable table = scene().hand(0, READY).draws("1z 7z").deal();
        table.discard(k("1z"), true);
        table.discard(k("5s"), false);
        CHECK.due("won", table.claim(0, 4, 0), 3);
        worth("double riichi", table, 0, Check.bits(1, 2, 8), 4, 30, 1920, 12600);

        table = scene().hand(0, QUIET).hand(1, READY).hand(2, FEEDER).draws("7z 1z 7z").deal();
        Scene.letGo(table, k("7z"));
        table.discard(k("1z"), true);
        table.discard(k("5s"), false);
        winFirst(table, 1);
        worth("double riichi of the second", table, 1, Check.bits(1, 2, 8), 4, 30, 1920, 8700);

        table = scene().hand(0, "7z 147m 258p 369s 346z").hand(1, "77z 5s 147m 258p 69s 34z").hand(2, READY)
                .draws("6z 1z").deal();
        table.discard(k("7z"), false);
        table.claim(1, 2, 0);
        Scene.letGo(table, k("3z"));
        CHECK.due("riichi", table.discard(k("1z"), true) > 0, true);
        Scene.pass(table);
        Scene.letGoDrawn(table, 2);
        table.discard(k("5s"), false);
        winFirst(table, 2);
        worth("no double riichi behind a call", table, 2, Check.bits(0, 2, 8), 3, 30, 960, 4900);

        table = scene().hand(0, "7777z 147m 258p 369s").hand(1, READY).hand(2, FEEDER).draws("2z 1z 6z").replacements("2z").deal();
        table.quad(k("7z"));
        Scene.letGo(table, k("2z"));
        table.discard(k("1z"), true);
        table.discard(k("5s"), false);
        winFirst(table, 1);
        worth("no double riichi behind a quad", table, 1, Check.bits(0, 2, 8), 3, 30, 960, 4900);
    }

    /** The player wins; the others let go. */
    private static void winFirst(RiichiTable table, int p) {
        CHECK.due("win is an option", table.options(p) & 16, 16);
        table.claim(p, 4, 0);
        if (table.phase() == 2) Scene.pass(table);
        CHECK.due("it is over", table.phase(), 3);
    }

    private static RiichiTable riichiInTheSecondTurn(Scene scene) {
        RiichiTable table = scene.hand(0, READY).deal();
        Scene.letGoDrawn(table, 4);
        CHECK.due("riichi", table.discard(table.drawn(), true) > 0, true);
        Scene.pass(table);
        return table;
    }

    private static void riichi() {
        RiichiTable table = riichiInTheSecondTurn(scene().draws("1z 7z 7z 7z 6z 7z"));
        table.discard(k("5s"), false);
        winFirst(table, 0);
        worth("riichi", table, 0, Check.bits(0, 2, 8), 3, 30, 960, 6800);
        CHECK.due("stick came back", table.points(0), 35800);

        table = riichiInTheSecondTurn(scene().draws("1z 7z 7z 7z 6z 7z 6z 6z 5s"));
        Scene.letGoDrawn(table, 3);
        CHECK.due("by what is drawn", table.win(), 4);
        worth("by what is drawn", table, 0, Check.bits(0, 2, 3, 8), 4, 20, 1280, 8800);
    }

    private static void freshEnds() {
        RiichiTable table = riichiInTheSecondTurn(scene().draws("1z 7z 7z 7z 6z 7z 6z 6z 4z 1z"));
        Scene.letGoDrawn(table, 4);
        table.discard(k("5s"), false);
        winFirst(table, 0);
        worth("behind the next discard", table, 0, Check.bits(0, 8), 2, 30, 480, 3900);

        table = riichiInTheSecondTurn(scene().hand(2, "77z 147m 258p 69s 34z 5s").draws("1z 6z 6z 6z 7z 7z 1z"));
        CHECK.due("who", table.who(), 1);
        table.discard(k("7z"), false);
        CHECK.due("a call", table.claim(2, 2, 0), 1);
        table.discard(k("5s"), false);
        winFirst(table, 0);
        worth("behind a call", table, 0, Check.bits(0, 8), 2, 30, 480, 3900);

        table = riichiInTheSecondTurn(scene().hand(1, "777z 5s 147m 258p 346z").draws("1z 6z 6z 6z 4z 7z").replacements("1z"));
        CHECK.due("a quad", table.quad(k("7z")), 1);
        table.discard(k("5s"), false);
        winFirst(table, 0);
        worth("behind a quad", table, 0, Check.bits(0, 8), 2, 30, 480, 3900);

        // The riichi tile itself is taken.
        table = scene().hand(0, READY).hand(1, "77z 5s 147m 258p 3446z").draws("7z").deal();
        table.discard(k("7z"), true);
        CHECK.due("a call", table.claim(1, 2, 0), 1);
        table.discard(k("5s"), false);
        winFirst(table, 0);
        worth("the riichi tile was taken", table, 0, Check.bits(1, 8), 3, 30, 960, 6800);

        // An added quad is robbed before it is completed.
        table = scene().hand(0, "123m 678m 345p 12s 99p").hand(1, "33s 147m 258p 346z 9s 5z")
                .hand(2, "147m 258p 69s 345z").hand(3, "3s 147m 258p 66s 345z 1z")
                .draws("7z 7z 7z 7z 2z 2z 2z 3s").indicators("1p", "1p").deal();
        Scene.letGoDrawn(table, 3);
        table.discard(k("3s"), false);
        table.claim(1, 2, 0);
        Scene.pass(table);
        Scene.letGo(table, k("5z"));
        Scene.letGoDrawn(table, 2);
        CHECK.due("riichi", table.discard(table.drawn(), true) > 0, true);
        Scene.pass(table);
        CHECK.due("who", table.who(), 1);
        CHECK.due("added", table.quad(k("3s")), 2);
        winFirst(table, 0);
        worth("robbed in time", table, 0, Check.bits(0, 2, 5), 3, 40, 1280, 8700);
    }

    private static void replacements() {
        RiichiTable table = scene().hand(0, "111z 234m 678m 345p 6s").draws("1z").replacements("6s").deal();
        CHECK.due("quad", table.quad(k("1z")), 1);
        CHECK.due("won", table.win(), 4);
        worth("closed quad", table, 0, Check.bits(3, 4, 10, 11), 4, 60, 2000, 12000);

        table = scene().hand(1, "7z 147m 258p 39s 134z").hand(0, "777z 234m 678m 345p 6s").draws("6z 6z").replacements("6s").deal();
        Scene.letGo(table, k("6z"));
        table.discard(k("7z"), false);
        CHECK.due("quad of a discard", table.claim(0, 3, 0), 1);
        CHECK.due("won", table.win(), 2);
        worth("quad of a discard", table, 0, Check.bits(4, 14), 2, 40, 640, 3900);

        table = scene().hand(1, "7z 147m 258p 39s 134z").hand(0, "77z 234m 678m 345p 6s 9s").draws("6z 6z 6z 5z 5z 7z")
                .replacements("6s").deal();
        Scene.letGo(table, k("6z"));
        table.discard(k("7z"), false);
        table.claim(0, 2, 0);
        Scene.letGo(table, k("9s"));
        Scene.letGoDrawn(table, 3);
        CHECK.due("who", table.who(), 0);
        CHECK.due("added", table.quad(k("7z")), 1);
        CHECK.due("won", table.win(), 2);
        worth("added quad", table, 0, Check.bits(4, 14), 2, 40, 640, 3900);
    }

    /** Player 1 draws the last tile; then player 3 can win by the last discard. */
    private static void lastTiles() {
        Scene scene = new Scene().hand(0, QUIET).hand(1, "234m 678m 345p 67s 33z").hand(2, "147m 258p 369s 1257z")
                .put(121, "5s").indicators("1z", "");
        RiichiTable table = scene.deal();
        Scene.letGoDrawn(table, 69);
        CHECK.due("left", table.table(4), 0);
        CHECK.due("who", table.who(), 1);
        CHECK.due("won", table.win(), 3);
        worth("last draw", table, 1, Check.bits(3, 6, 8), 3, 20, 640, 2700);

        scene = new Scene().hand(0, "147m 258p 369s 3456z").hand(1, "5p 147m 28p 369s 3457z")
                .hand(2, "46p 55p 22p 147m 369s 1z").hand(3, "345m 678m 34p 678s 88s").put(121, "2z").indicators("1z", "");
        table = scene.deal();
        Scene.letGoDrawn(table, 69);
        table.discard(k("5p"), false);
        winFirst(table, 3);
        worth("last discard", table, 3, Check.bits(7, 8, 24), 3, 30, 960, 3900);
    }

    /** Player 1 has an open triplet of 3z, which is no yaku. */
    private static void openHands() {
        Scene scene = new Scene().hand(0, "3z 77z 147m 258p 8s 49s 1z").hand(1, "33z 7z 234m 678m 67s 99p")
                .hand(2, "5588s 147m 258p 146z").hand(3, "58s 147m 258p 13469s").put(121, "5s").indicators("1z", "");
        for (int last = 6; last <= 7; last++) {
            RiichiTable table = scene.deal();
            table.discard(k("3z"), false);
            CHECK.due("open", table.claim(1, 2, 0), 1);
            table.discard(k("7z"), false);
            // When player 0 takes 7z, player 1 draws last, else player 2.
            CHECK.due("7z", table.claim(0, last == 6 ? 2 : 0, 0), 1);
            if (last == 6) Scene.letGo(table, k("1m"));
            Scene.letGoDrawn(table, 68);
            CHECK.due("left", table.table(4), 0);
            CHECK.due("the last tile", table.drawn(), k("5s"));
            if (last == 6) {
                CHECK.due("last draw", table.win(), 1);
                worth("last draw, open", table, 1, Check.bits(6), 1, 30, 240, 1100);
            } else {
                table.discard(k("5s"), false);
                winFirst(table, 1);
                worth("last discard, open", table, 1, Check.bits(7), 1, 30, 240, 1000);
            }
        }

        RiichiTable table = new Scene().hand(0, "4z 159m 159p 15s 1266z").hand(1, "33s 22z 7m 37p 339m 5m 6m 8s")
                .hand(2, "44z 1z 123m 678m 12s 99p").hand(3, "3s 258m 258p 8s 2z 77z 9s").draws("5z 5z 5z 6z 6z 3s")
                .indicators("4z", "").deal();
        table.discard(k("4z"), false);
        table.claim(2, 2, 0);
        Scene.letGo(table, k("1z"));
        table.discard(k("3s"), false);
        table.claim(1, 2, 0);
        Scene.pass(table);
        Scene.letGo(table, k("5m"));
        Scene.letGoDrawn(table, 3);
        CHECK.due("added", table.quad(k("3s")), 2);
        winFirst(table, 2);
        worth("robbed, open", table, 2, Check.bits(5), 1, 30, 240, 1000);
    }

    private static void riichiAlone() {
        RiichiTable table = new Scene().hand(0, "234m 678m 345p 68s 99p").hand(1, "7s 147m 258p 34z 1s 2s").hand(2, QUIET)
                .hand(3, QUIET).draws("1z 7z 7z 7z 6z 7z 6z 6z 4z 1z").indicators("1s", "1s").deal();
        Scene.letGoDrawn(table, 4);
        table.discard(table.drawn(), true);
        Scene.letGoDrawn(table, 4);
        table.discard(k("7s"), false);
        winFirst(table, 0);
        worth("riichi alone", table, 0, Check.bits(0), 1, 40, 320, 3000);
    }

    /** The dora are told by what quads have turned up, up to the fifth; in riichi also by what lies under that. */
    private static void doraBehindQuads() {
        RiichiTable table = new Scene().hand(0, "1111z 2222z 3333z 9m").hand(1, "5555z 5s 14m 25p 69s 7s 9m").hand(2, READY).hand(3, "147m")
                .draws("6z 7z").indicators("1111s 8p", "").replacements("6z 6z 6z 7z").deal();
        for (String kind : new String[] {"1z", "2z", "3z"}) CHECK.due("quad", table.quad(k(kind)), 1);
        Scene.letGo(table, k("6z"));
        CHECK.due("fourth quad", table.quad(k("5z")), 1);
        table.discard(k("5s"), false);
        winFirst(table, 2);
        worth("fifth indicator", table, 2, Check.bits(8), 3, 30, 960, 3900);

        table = new Scene().hand(0, READY).hand(1, "777z 5s 147m 25p 346z").hand(2, QUIET).hand(3, QUIET)
                .draws("1z 7z").indicators("11s", "1s 8p").replacements("6z").deal();
        table.discard(k("1z"), true);
        CHECK.due("quad", table.quad(k("7z")), 1);
        table.discard(k("5s"), false);
        winFirst(table, 0);
        worth("under the second indicator", table, 0, Check.bits(1, 8), 5, 30, 2000, 13000);

        // A dora in an open run counts once.
        table = new Scene().hand(0, "23m 777z 678m 67s 99p 1z").hand(3, "4m").hand(1, FEEDER).hand(2, QUIET).draws("2z 2z 6z 6z 6z")
                .indicators("2m", "").deal();
        Scene.letGo(table, k("2z"));
        Scene.letGoDrawn(table, 2);
        table.discard(k("4m"), false);
        CHECK.due("run", table.claim(0, 1, k("2m")), 1);
        Scene.letGo(table, k("1z"));
        table.discard(k("5s"), false);
        winFirst(table, 0);
        worth("dora in a run", table, 0, Check.bits(14), 2, 30, 480, 2900);
    }

    private static void dora() {
        // Without riichi only what is turned up counts, in riichi also what lies under it.
        for (int riichi = 0; riichi < 2; riichi++) {
            RiichiTable table = new Scene().hand(0, READY).hand(1, FEEDER).hand(2, QUIET).hand(3, QUIET)
                    .draws("1z 7z 7z 7z 6z 7z").indicators("8p", "3m").deal();
            Scene.letGoDrawn(table, 4);
            table.discard(k("6z"), riichi == 1);
            Scene.pass(table);
            table.discard(k("5s"), false);
            winFirst(table, 0);
            long yaku = riichi == 1 ? Check.bits(0, 2, 8) : Check.bits(8);
            worth("dora, riichi " + riichi, table, 0, yaku, riichi == 1 ? 6 : 3, 30, riichi == 1 ? 3000 : 960);
        }
        // A quad turns up one more; the same dora twice counts twice.
        RiichiTable table = new Scene().hand(0, READY).hand(1, "777z 5s 147m 25p 346z").hand(2, QUIET).hand(3, QUIET)
                .draws("1z 7z").indicators("88p", "").replacements("6z").deal();
        Scene.letGo(table, k("1z"));
        CHECK.due("quad", table.quad(k("7z")), 1);
        table.discard(k("5s"), false);
        winFirst(table, 0);
        worth("two indicators", table, 0, Check.bits(8), 5, 30, 2000, 12000);

        // Tiles of melds count, four of a quad; and dora alone is no yaku.
        table = new Scene().hand(0, "7777z 234m 678m 45p 1z").hand(1, "6p 147m 258p 369s 34z 9m").hand(2, QUIET).hand(3, QUIET)
                .draws("1z 2z").indicators("6z 8p", "").replacements("6z").deal();
        CHECK.due("quad", table.quad(k("7z")), 1);
        Scene.letGo(table, k("6z"));
        table.discard(k("6p"), false);
        winFirst(table, 0);
        worth("dora in a quad", table, 0, Check.bits(14), 5, 70, 2000, 12000);

        table = new Scene().hand(0, "234m 678m 345p 68s 99p").hand(1, "7s 147m 258p 369p 134z").hand(2, QUIET).hand(3, QUIET)
                .draws("1z 7z").indicators("8p", "").deal();
        Scene.letGo(table, k("1z"));
        CHECK.due("dora is no yaku", table.discard(k("7s"), false), 1);
    }

    /** Each indicator with the kind that is its dora. */
    private static void doraOfKinds() {
        String[][] pairs = {{"8p", "9p"}, {"9p", "1p"}, {"1s", "2s"}, {"9s", "1s"}, {"9m", "1m"}, {"1z", "2z"}, {"3z", "4z"}, {"4z", "1z"},
            {"5z", "6z"}, {"6z", "7z"}, {"7z", "5z"}};
        for (String[] pair : pairs) {
            // Seven pairs, one of them the dora, by a discard.
            RiichiTable table = new Scene().hand(0, pair[1] + pair[1] + "3355m 3355p 66s 8m")
                    .hand(1, "8m 47m 28p 39s").hand(2, "47m 28p 39s").hand(3, "47m 28p 39s")
                    .draws("2m").indicators(pair[0], "").deal();
            Scene.letGo(table, k("2m"));
            table.discard(k("8m"), false);
            winFirst(table, 0);
            boolean inner = pair[1].equals("2s");
            long yaku = inner ? Check.bits(24, 26) : Check.bits(26);
            worth(pair[0] + " tells " + pair[1], table, 0, yaku, inner ? 5 : 4, 25, inner ? 2000 : 1600);
        }
    }
}
