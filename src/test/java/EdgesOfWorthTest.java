/**
 * The boundary cases of what a hand is worth: readings, yaku, han, fu and base,
 * and of promises 20 and 21. The winner is player 1 mostly, whose seat wind is
 * 2z in the first hand; the round wind is 1z.
 */
public final class EdgesOfWorthTest {
    private static final Check CHECK = new Check();
    private static final int[] NONE = {};
    private static final String QUIET = "147m 258p 369s 345z";
    /** Ready for 5s and 8s, with yaku 8. */
    private static final String READY = "234m 678m 345p 67s 99p";

    public static void main(String[] args) {
        readings();
        lastTileOpen();
        riichi();
        beforeTheNextDiscard();
        drawnClosed();
        robbed();
        replacement();
        lastDraw();
        lastDiscard();
        flat();
        runsAlike();
        windsAndDragons();
        runsInSuits();
        outerSets();
        tripletsAndQuads();
        sameRanks();
        twoDragons();
        allTiles();
        oneSuit();
        melds();
        limitHan();
        orphans();
        nineGates();
        closedFour();
        fourQuads();
        limitHonours();
        limitKinds();
        firstWins();
        dora();
        fuOfPairsAndFlat();
        fuOfSets();
        fuOfLast();
        fuRounded();
        base();
        worthAnswers();
        yakuAnswers();
        CHECK.end();
    }

    private static int k(String text) {
        return Scene.kind(text);
    }

    private static int[] y(int... yaku) {
        return yaku;
    }

    private static void drawn(String hand, String melds, String last, int[] yaku, int... what) {
        HandScene.row(CHECK, 1, hand, melds, last, true, yaku, what);
    }

    private static void taken(String hand, String melds, String last, int[] yaku, int... what) {
        HandScene.row(CHECK, 1, hand, melds, last, false, yaku, what);
    }

    /** The yaku of a hand of player 1; 0 when it can't be won. */
    private static long yakuOf(String hand, String melds, String last, boolean byDraw) {
        HandScene scene = new HandScene(1, hand, melds, last, byDraw);
        RiichiTable table = scene.play();
        return scene.win(table) ? table.yaku(1) : 0;
    }

    private static void has(int yaku, boolean want, String hand, String melds, String last) {
        for (int draw = 0; draw < 2; draw++) {
            CHECK.due("yaku " + yaku + " in " + hand + " | " + melds + " | " + last + " " + draw,
                    yakuOf(hand, melds, last, draw == 1) >> yaku & 1, want ? 1 : 0);
        }
    }

    private static void told(String hand, String melds, String last, String indicators, boolean byDraw, int[] yaku, int... what) {
        HandScene scene = new HandScene(1, hand, melds, last, byDraw).indicators(indicators);
        RiichiTable table = scene.play();
        String name = hand + " | " + melds + " | " + last + " by " + indicators;
        CHECK.due(name + " is won", scene.win(table), true);
        CHECK.due(name + " yaku", table.yaku(1), Check.bits(yaku));
        for (int i = 0; i < what.length; i++) CHECK.due(name + " worth " + i, table.worth(1, i), what[i]);
    }

    private static void readings() {
        CHECK.sentence("A complete hand is read in every way: as ORPHANS, as SEVEN PAIRS, or taken apart into sets and a pair,");
        taken("223344m 667788p 9s", "", "9s", y(27), 3, 40, 1280, 5200);
        taken("223344m 66p 77p 99p 9s", "", "9s", y(26), 2, 25, 400, 1600);
        taken("19m 19p 19s 1234567z", "", "1m", y(30), 13, 30, 8000, 32000);

        CHECK.sentence("and for those with the last tile in each set (that is no meld) or pair that has its kind.");
        // In 567 it is worth nothing, in the middle of 456 it would be worth 2 fu more: that is a meld.
        taken("222p 67s 55z", "r456s t777z", "5s", y(14), 1, 30, 240, 1000);
        taken("222p 46s 55z", "r567s t777z", "5s", y(14), 1, 40, 320, 1300);
        // In the run, the pair or the triplet.
        taken("234m 345p 3456s 678s", "", "6s", y(8, 24), 2, 30, 480, 2000);
        drawn("999m 345p 345m 4566s", "", "6s", y(3), 1, 40, 320, 1500);
        taken("22234m 222p 222s 99p", "", "2m", y(20, 22), 4, 50, 2000, 8000);

        CHECK.sentence("Of the readings with a yaku the one with the greatest BASE counts;");
        taken("111222333m 79s 55p", "", "8s", y(20), 2, 50, 800, 3200);
        taken("111222333m 78s 99p", "", "9s", y(8, 9, 18), 5, 30, 2000, 8000);
        taken("1112344m 444p 444s", "", "4m", y(20), 2, 50, 800, 3200);
        // Only one reading has a yaku.
        taken("123m 345p 3456s 678s", "", "6s", y(8), 1, 30, 240, 1000);

        CHECK.sentence("of several the one with more han, then that with more fu,");
        taken("2345577788999p", "", "8p", y(9, 29), 7, 40, 3000, 12000);
        drawn("3377778889999s", "", "8s", y(3, 27, 29), 10, 30, 4000, 16000);
        taken("233334444555m 7z", "", "7z", y(20, 28), 5, 50, 2000, 8000);
        moreHanThanALimit();

        CHECK.sentence("then that with more fu, then that with the greater sum of 2^y over its yaku y.");
        drawn("2234455566m 111z", "", "4m", y(3, 9, 11, 28), 6, 40, 3000, 12000);
        taken("222333444s 66s 66z", "", "6z", y(39), 13, 50, 8000, 32000);
        // 20 has more fu than 22, though less in the sum.
        told("1112344m 444p 444s", "", "4m", "3s", false, y(20), 5, 50, 2000, 8000);

        CHECK.sentence("that with the greater sum of 2^y over its yaku y.");
        taken("2234555p", "c2222m c2222s", "2p", y(22, 24), 3, 70, 2000, 8000);
        taken("3345666p 333s", "c3333m", "3p", y(22, 24), 3, 60, 1920, 7700);
        taken("1112344m 444p", "c4444s", "4m", y(22), 2, 60, 960, 3900);
    }

    /** Four closed triplets are 13 han; the same tiles with three runs alike are more, and 8000 both. */
    private static void moreHanThanALimit() {
        RiichiTable table = new Scene().hand(0, "222333777m 4499m").hand(1, "258p 369s 345z").hand(2, "258p 369s 345z").hand(3, "258p 369s 345z")
                .draws("1z 2z 2z 2z 2z 6z 6z 6z 4m").indicators("1m", "6m").deal();
        Scene.letGoDrawn(table, 4);
        table.discard(k("2z"), true);
        Scene.pass(table);
        Scene.letGoDrawn(table, 3);
        CHECK.due("more than a limit", table.win(), 16);
        CHECK.due("yaku", table.yaku(0), Check.bits(0, 2, 3, 9, 29));
        CHECK.due("base", table.worth(0, 2), 8000);
    }

    private static void lastTileOpen() {
        CHECK.sentence("If it is won by another's tile, a triplet that has the last tile counts as open.");
        taken("222m 444p 77p 345s 33z", "", "7p", NONE);
        drawn("222m 444p 77p 345s 33z", "", "7p", y(3, 20), 3, 40, 1280, 5200);
        taken("555z 345m 678p 44s 33z", "", "4s", y(12), 1, 40, 320, 1300);
        drawn("555z 345m 678p 44s 33z", "", "4s", y(3, 12), 2, 40, 640, 2700);
        taken("555z 345m 678p 444s 3z", "", "3z", y(12), 1, 50, 400, 1600);
    }

    private static Scene quiet() {
        return new Scene().hand(1, "5s 147m 258p 34z 1s 2s").hand(2, QUIET).hand(3, QUIET).indicators("1122s", "9999m");
    }

    /** Player 0 wins by 5s of player 1. */
    private static void feed(String name, RiichiTable table, int... yaku) {
        CHECK.due(name + ": who", table.who(), 1);
        table.discard(k("5s"), false);
        CHECK.due(name + ": option", table.options(0) & 16, 16);
        table.claim(0, 4, 0);
        Scene.pass(table);
        CHECK.due(name + ": yaku", table.yaku(0), Check.bits(yaku));
    }

    private static void riichi() {
        CHECK.sentence("0 riichi 1, 1 double riichi 2 (then not 0),");
        // Alone it is a yaku, too.
        RiichiTable table = new Scene().hand(0, "234m 678m 345p 68s 99p").hand(1, "7s 147m 258p 34z 1s 2s").hand(2, QUIET).hand(3, QUIET)
                .draws("1z 7z 7z 7z 6z 7z 6z 6z 4z 1z").indicators("1s", "1s").deal();
        Scene.letGoDrawn(table, 4);
        table.discard(table.drawn(), true);
        Scene.letGoDrawn(table, 4);
        table.discard(k("7s"), false);
        table.claim(0, 4, 0);
        Scene.pass(table);
        CHECK.due("riichi alone", table.yaku(0), Check.bits(0));
        CHECK.due("one han", table.worth(0, 0), 1);

        table = quiet().hand(0, READY).draws("1z 7z").deal();
        table.discard(k("1z"), true);
        feed("double riichi", table, 1, 2, 8);
        CHECK.due("han", table.worth(0, 0), 4);
        table = quiet().hand(0, READY).draws("1z 7z 7z 7z 6z 6z").deal();
        Scene.letGoDrawn(table, 4);
        table.discard(k("6z"), true);
        feed("riichi", table, 0, 2, 8);
        CHECK.due("han", table.worth(0, 0), 3);
        table = quiet().hand(0, READY).draws("1z 7z 7z 7z 6z 6z").deal();
        Scene.letGoDrawn(table, 5);
        Scene.letGoDrawn(table, 4);
        feed("neither", table, 8);
    }

    private static RiichiTable inRiichi(Scene scene) {
        RiichiTable table = scene.hand(0, READY).deal();
        Scene.letGoDrawn(table, 4);
        CHECK.due("riichi", table.discard(table.drawn(), true) > 0, true);
        Scene.pass(table);
        return table;
    }

    private static void beforeTheNextDiscard() {
        CHECK.sentence("2 riichi or double riichi and the win comes before the player's next discard is made"
                + " and before any call or completed quad: 1;");
        feed("at once", inRiichi(quiet().draws("1z 7z 7z 7z 6z 7z")), 0, 2, 8);
        RiichiTable table = inRiichi(quiet().draws("1z 7z 7z 7z 6z 7z 6z 6z 5s"));
        Scene.letGoDrawn(table, 3);
        CHECK.due("by the next draw", table.win(), 4);
        CHECK.due("by the next draw", table.yaku(0), Check.bits(0, 2, 3, 8));
        table = inRiichi(quiet().draws("1z 7z 7z 7z 6z 7z 6z 6z 4z 1z"));
        Scene.letGoDrawn(table, 4);
        feed("behind the next discard", table, 0, 8);

        table = inRiichi(quiet().hand(2, "77z 147m 258p 69s 34z 5s").draws("1z 6z 6z 6z 4z 7z"));
        table.discard(k("7z"), false);
        table.claim(2, 2, 0);
        table.discard(k("5s"), false);
        table.claim(0, 4, 0);
        Scene.pass(table);
        CHECK.due("behind a call", table.yaku(0), Check.bits(0, 8));

        table = inRiichi(quiet().hand(1, "777z 5s 147m 258p 346z").draws("1z 6z 6z 6z 4z 7z").replacements("1z"));
        CHECK.due("a closed quad", table.quad(k("7z")), 1);
        feed("behind a completed quad", table, 0, 8);

        table = robbedInRiichi();
        table.claim(0, 4, 0);
        CHECK.due("a quad that is not completed", table.yaku(0), Check.bits(0, 2, 5));
    }

    /** Player 0 is in riichi, and player 1 adds 3s, for which they wait. */
    private static RiichiTable robbedInRiichi() {
        RiichiTable table = new Scene().hand(0, "123m 678m 345p 12s 99p").hand(1, "33s 147m 258p 346z 9s 5z")
                .hand(2, "147m 258p 69s 345z").hand(3, "3s 147m 258p 66s 345z 1z")
                .draws("7z 7z 7z 7z 2z 2z 2z 3s").indicators("1p", "1p").deal();
        Scene.letGoDrawn(table, 3);
        table.discard(k("3s"), false);
        table.claim(1, 2, 0);
        Scene.pass(table);
        Scene.letGo(table, k("5z"));
        Scene.letGoDrawn(table, 2);
        table.discard(table.drawn(), true);
        Scene.pass(table);
        CHECK.due("added", table.quad(k("3s")), 2);
        return table;
    }

    private static void drawnClosed() {
        CHECK.sentence("3 won by what is drawn, closed 1 / -;");
        drawn("123m 456p 555s 78p 99m", "", "9p", y(3), 1, 30, 240, 1100);
        taken("123m 456p 555s 78p 99m", "", "9p", NONE);
        drawn("456p 555s 78p 99m", "r123m", "9p", NONE);
        drawn("456p 123m 78p 99m", "c5555s", "9p", y(3), 1, 40, 320, 1500);
        drawn("456p 123m 78p 99m", "a5555s", "9p", NONE);
    }

    private static void robbed() {
        CHECK.sentence("5 by robbing an added quad 1;");
        RiichiTable table = Phases.at(Phases.ADDED);
        table.claim(2, 4, 0);
        CHECK.due("robbed", table.yaku(2), Check.bits(5));
        table = robbedInRiichi();
        table.claim(0, 4, 0);
        CHECK.due("1 for riichi, 1 before the next discard, 1 for robbing", table.worth(0, 0), 3);
        // The same hand by a discard has no yaku at all.
        taken("123m 678m 345p 12s 99p", "", "3s", NONE);
    }

    private static void replacement() {
        CHECK.sentence("4 by a replacement drawn 1;");
        RiichiTable table = quiet().hand(0, "666z 234m 678m 345p 6s").draws("6z 1z").replacements("6s").deal();
        table.quad(k("6z"));
        CHECK.due("closed quad", table.win(), 3);
        CHECK.due("closed quad", table.yaku(0), Check.bits(3, 4, 13));
        for (int later = 0; later < 2; later++) {
            table = new Scene().hand(1, "7z 147m 258p 39s 134z").hand(0, "777z 234m 678m 345p 6s").hand(2, "147m 258p 39s 5z").hand(3, "147m 258p 39s 5z")
                    .draws("6z 6z 1z 1z 1z 6s").indicators("11s", "").replacements(later == 0 ? "6s" : "6z").deal();
            Scene.letGo(table, k("6z"));
            table.discard(k("7z"), false);
            CHECK.due("quad of a discard", table.claim(0, 3, 0), 1);
            if (later == 1) Scene.letGoDrawn(table, 4);
            CHECK.due("who", table.who(), 0);
            CHECK.due("won", table.win() > 0, true);
            CHECK.due("quad of a discard, later " + later, table.yaku(0), later == 0 ? Check.bits(4, 14) : Check.bits(14));
        }
        CHECK.due("a draw behind a quad", yakuOf("345m 678p 45s 99p", "q7777z", "6s", true), Check.bits(14));
    }

    /** The turn of the seat that has so many left at its draw; the last place has 5s. */
    private static RiichiTable nearTheEnd(int left, String hand, String replacement) {
        int seat = (69 - left) % 4;
        Scene scene = new Scene().put(121 - left, "5s").replacements(replacement).indicators("1z", "");
        for (int p = 0; p < 4; p++) scene.hand(p, p == seat ? hand : "147m 258p 39s 34z");
        scene.spare("55z 66z 55z 66z");
        RiichiTable table = scene.deal();
        Scene.letGoDrawn(table, 69 - left);
        CHECK.due("left", table.table(4), left);
        return table;
    }

    private static void lastDraw() {
        CHECK.sentence("6 by what is drawn, no replacement, LEFT 0: 1;");
        for (int left = 0; left < 3; left++) {
            RiichiTable table = nearTheEnd(left, "234m 678m 345p 67s 22m", "");
            int p = table.who();
            CHECK.due("won", table.win() > 0, true);
            CHECK.due("left " + left, table.yaku(p), left == 0 ? Check.bits(3, 6, 8, 24) : Check.bits(3, 8, 24));
            CHECK.due("han with left " + left, table.worth(p, 0), left == 0 ? 4 : 3);
        }
        // A quad at LEFT 1 leaves 0; the replacement is no last draw.
        RiichiTable table = nearTheEnd(1, "2222z 678m 345p 67s 5s", "5s");
        int p = table.who();
        CHECK.due("quad", table.quad(k("2z")), 1);
        CHECK.due("left", table.table(4), 0);
        CHECK.due("won", table.win() > 0, true);
        CHECK.due("a replacement at left 0", table.yaku(p) & Check.bits(3, 4, 6, 7), Check.bits(3, 4));
    }

    private static void lastDiscard() {
        CHECK.sentence("7 by a discard, LEFT 0: 1.");
        for (int left = 0; left < 3; left++) {
            // Player p waits for 5p alone, of which all are in hands.
            int seat = (69 - left) % 4;
            Scene scene = new Scene().indicators("1z", "");
            for (int p = 0; p < 4; p++) {
                String hand = p == seat ? "5555p 14m 28p 39s 34z" : p == (seat + 2) % 4 ? "345m 678m 46p 678s 88s" : "147m 28p 39s 34z";
                scene.hand(p, hand);
            }
            RiichiTable table = scene.deal();
            Scene.letGoDrawn(table, 69 - left);
            CHECK.due("left", table.table(4), left);
            table.discard(k("5p"), false);
            int p = (seat + 2) % 4;
            CHECK.due("option", table.options(p) & 16, 16);
            table.claim(p, 4, 0);
            Scene.pass(table);
            CHECK.due("left " + left, table.yaku(p), left == 0 ? Check.bits(7, 24) : Check.bits(24));
            CHECK.due("han with left " + left, table.worth(p, 0), left == 0 ? 2 : 1);
        }
        discardBehindAQuad();
    }

    /** A quad at LEFT 1 leaves 0; what is discarded then is the last discard. */
    private static void discardBehindAQuad() {
        Scene scene = new Scene().hand(0, "2222z 5p 147m 28p 39s").hand(1, "147m 28p 39s 34z").hand(2, "345m 678m 46p 678s 88s")
                .hand(3, "555p 14m 28p 39s 34z").indicators("11z", "");
        RiichiTable table = scene.deal();
        Scene.letGoDrawn(table, 68);
        CHECK.due("left", table.table(4), 1);
        CHECK.due("quad", table.quad(k("2z")), 1);
        CHECK.due("left then", table.table(4), 0);
        table.discard(k("5p"), false);
        CHECK.due("winning alone", table.options(2), 16);
        table.claim(2, 4, 0);
        Scene.pass(table);
        CHECK.due("behind a quad", table.yaku(2), Check.bits(7, 24));
    }

    private static void flat() {
        CHECK.sentence("the last tile in a run at an end such that two kinds complete it"
                + " (in the run r r+1 r+2: as r with r < 7, or as r + 2 with r > 1): 1 / -.");
        for (int rank = 1; rank <= 7; rank++) {
            for (int i = 0; i < 3; i++) {
                StringBuilder rest = new StringBuilder();
                for (int j = 0; j < 3; j++) if (j != i) rest.append(rank + j);
                boolean yes = i == 0 && rank < 7 || i == 2 && rank > 1;
                has(8, yes, "234m 678m 345p" + rest + "s 99p", "", rank + i + "s");
            }
        }
        has(8, false, "234m 678m 345p 567s 9p", "", "9p");
        has(8, false, "234m 678m 333p 67s 99p", "", "8s");

        CHECK.sentence("8 closed, four runs, the pair neither a dragon nor the seat or round wind,");
        String[] pairs = {"11z", "22z", "33z", "44z", "55z", "66z", "77z", "99p", "22p"};
        for (int i = 0; i < pairs.length; i++) has(8, i == 2 || i == 3 || i > 6, "234m 678m 345p 67s" + pairs[i], "", "5s");
        has(8, false, "678m 345p 67s 99p", "r234m", "5s");
        // The dealer's seat wind is the round wind; 2z is neither.
        HandScene scene = new HandScene(0, "234m 678m 345p 67s 22z", "", "5s", false);
        RiichiTable table = scene.play();
        CHECK.due("won", scene.win(table), true);
        CHECK.due("2z of the dealer", table.yaku(0), Check.bits(8));
    }

    private static void runsAlike() {
        CHECK.sentence("9 closed, two runs alike: 1 / -, but 27 instead, if there are two such pairs of runs (four alike, too).");
        taken("223344m 678p 46s 99p", "", "5s", y(9), 1, 40, 320, 1300);
        taken("223344m 667788p 9s", "", "9s", y(27), 3, 40, 1280, 5200);
        taken("222233334444m 9s", "", "9s", y(27), 3, 40, 1280, 5200);
        // Three alike are one pair of runs; with a fourth run beside them, too.
        taken("111222333m 78s 99p", "", "9s", y(8, 9, 18), 5, 30, 2000, 8000);
        has(9, false, "234m 345m 678p 46s 99p", "", "5s");
        has(9, false, "234m 234p 678p 46s 99p", "", "5s");
        taken("234m 678p 46s 99p", "r234m", "5s", NONE);

        CHECK.sentence("27 closed, two times two runs alike 3 / -.");
        drawn("223344m 667788p 9s", "", "9s", y(3, 27), 4, 30, 1920, 7900);
        has(27, false, "223344m 678p 9s", "r678p", "9s");
        has(9, true, "223344m 46s 99p", "c5555z", "5s");
    }

    private static void windsAndDragons() {
        CHECK.sentence("10 a triplet or quad of the seat wind 1; 11 of the round wind 1; 12, 13, 14 of the dragons 31, 32, 33, 1 each.");
        int[] yaku = {11, 10, -1, -1, 12, 13, 14};
        for (int i = 0; i < 7; i++) {
            String wind = Scene.text(27 + i);
            long want = yaku[i] < 0 ? 0 : 1L << yaku[i];
            CHECK.due("concealed " + wind, yakuOf("345m 678p 45s 99p" + wind.repeat(3), "", "6s", false), want);
            CHECK.due("triplet of " + wind, yakuOf("345m 678p 45s 99p", "t" + wind.repeat(3), "6s", false), want);
            for (String sort : new String[] {"q", "a", "c"}) {
                CHECK.due(sort + " of " + wind, yakuOf("345m 678p 45s 99p", sort + wind.repeat(4), "6s", false), want);
            }
            CHECK.due("a pair of " + wind, yakuOf("345m 678p 44s 444p" + wind.repeat(2), "", "4s", false), 0);
        }
        HandScene.row(CHECK, 0, "111z 345m 678p 45s 99p", "", "6s", false, y(10, 11), 2, 40, 640, 3900);
    }

    private static void runsInSuits() {
        CHECK.sentence("15 the run of the same ranks in all three suits 2 / 1. 16 runs of ranks 1, 4 and 7 in one suit 2 / 1.");
        for (int rank = 1; rank <= 7; rank++) {
            String run = "" + rank + (rank + 1) + (rank + 2);
            String middle = rank + 1 + "s";
            String ends = "" + rank + (rank + 2) + "s";
            String triplet = rank > 5 ? "111" : "999";
            has(15, true, run + "m" + run + "p" + ends + triplet + "s 33z", "", middle);
            int other = rank == 7 ? 6 : rank + 1;
            String run2 = "" + other + (other + 1) + (other + 2);
            has(15, false, run2 + "m" + run + "p" + ends + triplet + "m 33z", "", middle);
        }
        taken("345m 345p 35s 789m 33z", "", "4s", y(15), 2, 40, 640, 2600);
        taken("345p 35s 789m 33z", "r345m", "4s", y(15), 1, 30, 240, 1000);
        for (String suit : new String[] {"m", "p", "s"}) {
            String other = suit.equals("m") ? "p" : "m";
            has(16, true, "123456789" + suit + "46" + other + "33z", "", "5" + other);
            String third = suit.equals("s") ? "p" : "s";
            has(16, false, "123456" + suit + "22789" + other + "46" + third, "", "5" + third);
            has(16, false, "123567789" + suit + "46" + other + "33z", "", "5" + other);
        }
        taken("123456789m 46p 33z", "", "5p", y(16), 2, 40, 640, 2600);
        taken("123789m 46p 33z", "r456m", "5p", y(16), 1, 30, 240, 1000);
    }

    private static void outerSets() {
        CHECK.sentence("17 every set and the pair has an outer kind, one at least an honour, and there is a run: 2 / 1;"
                + " 18 likewise, but none an honour: 3 / 2.");
        taken("123m 789p 999s 13s 33z", "", "2s", y(17), 2, 40, 640, 2600);
        taken("123m 789p 13s 33z", "t999s", "2s", y(17), 1, 30, 240, 1000);
        taken("123m 789p 444z 13s 99m", "", "2s", y(17), 2, 40, 640, 2600);
        taken("123m 789p 999s 13s 11p", "", "2s", y(18), 3, 40, 1280, 5200);
        taken("123m 789p 13s 11p", "t999s", "2s", y(18), 2, 30, 480, 2000);
        for (int y = 17; y <= 18; y++) {
            has(y, false, "123m 789p 999s 24s 11p", "", "3s");
            has(y, false, "123m 678p 999s 13s 11p", "", "2s");
            has(y, false, "123m 789p 888s 13s 33z", "", "2s");
            has(y, false, "123m 789p 999s 13s 22p", "", "2s");
        }
        // Without a run these are other yaku.
        taken("999s 11z 33z", "t111m t999p", "3z", y(19, 25), 4, 50, 2000, 8000);
        has(17, false, "999s 11z 33z", "t111m t999p", "3z");
        has(18, false, "111m 999m 11p 99p", "t111s", "1p");
        // Each honour will do, in a triplet or as the pair; and each set is looked at.
        for (int kind = 27; kind < 34; kind++) {
            has(17, true, "123m 789p 13s 99m" + Scene.text(kind).repeat(3), "", "2s");
            has(17, true, "123m 789p 999s 13s" + Scene.text(kind).repeat(2), "", "2s");
        }
        has(17, false, "234m 789p 999s 13s 33z", "", "2s");
        has(17, false, "123m 789p 777s 13s 33z", "", "2s");
        has(17, false, "123m 234p 999s 13s 33z", "", "2s");
        has(17, false, "789p 13s 33z 123m", "r234m", "2s");
        has(18, false, "234m 789p 999s 13s 11p", "", "2s");
    }

    private static void tripletsAndQuads() {
        CHECK.sentence("19 four triplets or quads 2. 20 three closed triplets or quads 2. 21 three quads 2.");
        taken("666s 99p 33z", "t222m t444p", "9p", y(19), 2, 40, 640, 2600);
        taken("5s", "t222m t444p t666s a3333z", "5s", y(19), 2, 50, 800, 3200);
        has(19, false, "678s 99p 33z", "t222m t444p", "9p");
        taken("222m 444p 777p 35s 33z", "", "4s", y(20), 2, 50, 800, 3200);
        taken("222m 444p 35s 33z", "c7777p", "4s", y(20), 2, 60, 960, 3900);
        has(20, false, "222m 444p 35s 33z", "q7777p", "4s");
        has(20, false, "222m 444p 35s 33z", "a7777p", "4s");
        has(20, false, "222m 444p 35s 33z", "t777p", "4s");
        has(20, true, "222m 444p 777s 3z", "t666z", "3z");
        CHECK.due("three closed ones by the last draw", yakuOf("222m 444p 77p 345s 33z", "", "7p", true) >> 20 & 1, 1);
        CHECK.due("two and the last tile's", yakuOf("222m 444p 77p 345s 33z", "", "7p", false) >> 20 & 1, 0);
        taken("345s 3z", "c2222m a4444p q6666s", "3z", y(21), 2, 60, 960, 3900);
        taken("345s 3z", "c2222m c4444p c6666s", "3z", y(20, 21), 4, 80, 2000, 8000);
        has(21, false, "345s 3z", "c2222m a4444p t666s", "3z");
        has(21, true, "5s", "c2222m q4444p a6666s t333z", "5s");
    }

    private static void sameRanks() {
        CHECK.sentence("22 triplets or quads of the same rank in all three suits 2.");
        for (int rank = 1; rank <= 9; rank++) {
            String three = ("" + rank).repeat(3);
            boolean low = rank < 4 || rank == 9;
            String rest = low ? "57m" : "23p";
            String last = low ? "6m" : "4p";
            has(22, true, three + "m" + three + "p" + rest + "33z", "t" + three + "s", last);
            String other = ("" + (rank % 9 + 1)).repeat(3);
            has(22, false, three + "m" + three + "p" + rest + "33z", "t" + other + "s", last);
        }
        has(22, true, "33s 678m 99p", "t333m q3333p", "3s");
        has(22, false, "111z 222z 99p 45m", "t333z", "6m");
    }

    private static void twoDragons() {
        CHECK.sentence("23 two dragon triplets or quads, and the pair the third dragon 2.");
        String[] dragons = {"5z", "6z", "7z"};
        for (int i = 0; i < 3; i++) {
            String a = dragons[(i + 1) % 3];
            String b = dragons[(i + 2) % 3];
            has(23, true, "345m 67p" + dragons[i].repeat(2), "t" + a.repeat(3) + " a" + b.repeat(4), "8p");
            has(23, false, "345m 67p 33z", "t" + a.repeat(3) + " a" + b.repeat(4), "8p");
            has(23, false, "345m 67p 345s" + dragons[i].repeat(2), "t" + a.repeat(3), "8p");
        }
        taken("555z 666z 77z 345m 67p", "", "8p", y(12, 13, 23), 4, 50, 2000, 8000);
        taken("77z 345m 67p", "t555z t666z", "8p", y(12, 13, 23), 4, 30, 1920, 7700);
    }

    private static void allTiles() {
        CHECK.sentence("24 no outer kind 1. 25 outer kinds only (not orphans) 2. 26 seven pairs 2 / -.");
        taken("567p 45s 88s 345m", "r234m", "6s", y(24), 1, 30, 240, 1000);
        has(24, false, "567p 45s 99s 345m", "r234m", "6s");
        has(24, false, "567p 45s 88s 345m", "r123m", "6s");
        has(24, false, "567p 45s 33z 345m", "r234m", "6s");
        has(24, false, "567p 78s 88s 345m", "r234m", "9s");
        has(24, true, "567p 78s 88s 345m", "r234m", "6s");
        has(25, true, "999s 11z 33z", "t111m t999p", "3z");
        has(25, false, "888s 11z 33z", "t111m t999p", "3z");
        taken("1199m 1199p 1199s 1z", "", "1z", y(25, 26), 4, 25, 1600, 6400);
        taken("2244m 2277p 3355s 6s", "", "6s", y(24, 26), 3, 25, 800, 3200);
        taken("1144m 2277p 3355s 6z", "", "6z", y(26), 2, 25, 400, 1600);
        CHECK.due("not orphans", yakuOf("19m 19p 19s 1234567z", "", "1m", false), Check.bits(30));
    }

    private static void oneSuit() {
        CHECK.sentence("28 tiles of one suit alone and honours, both 3 / 2; 29 of one suit alone, no honours 6 / 5.");
        taken("234345m 68m 333z 99m", "", "7m", y(28), 3, 40, 1280, 5200);
        taken("234345m 68m 99m", "t333z", "7m", y(28), 2, 30, 480, 2000);
        taken("234345m 68m 111m 99m", "", "7m", y(29), 6, 40, 3000, 12000);
        taken("234345m 68m 99m", "t111m", "7m", y(29), 5, 30, 2000, 8000);
        taken("1122m 4466m 88m 33z 5z", "", "5z", y(26, 28), 5, 25, 2000, 8000);
        taken("1122m 4466m 8899m 5m", "", "5m", y(26, 29), 8, 25, 4000, 16000);
        for (int y = 28; y <= 29; y++) {
            has(y, false, "234345m 68m 111m 99p", "", "7m");
            has(y, false, "234345m 68m 33z", "t999s", "7m");
            has(y, false, "234m 68m 555z 11z", "r345s", "7m");
        }
        for (String suit : new String[] {"p", "s"}) {
            has(28, true, "234345" + suit + "68" + suit + "99" + suit, "t333z", "7" + suit);
            has(29, true, "234345" + suit + "68" + suit + "99" + suit, "t111" + suit, "7" + suit);
        }
        // Honours alone are neither.
        has(28, false, "222z 555z 66z 77z", "t111z", "6z");
    }

    private static void melds() {
        CHECK.sentence("Runs of melds count like others, but where closed is said.");
        has(15, true, "345p 35s 789m 33z", "r345m", "4s");
        has(16, true, "123m 46p 33z", "r456m r789m", "5p");
        has(9, false, "234m 678p 46s 99p", "r234m", "5s");
        has(27, false, "234m 678p 9s", "r234m r678p", "9s");
        has(8, false, "678m 67s 99p", "r234m r345p", "5s");
        CHECK.sentence("(Open han where one number is said: the same.)");
        taken("345m 678p 45s 99p", "t222z", "6s", y(10), 1, 30, 240, 1000);
        taken("345m 678p 45s 99p", "t111z", "6s", y(11), 1, 30, 240, 1000);
        taken("345m 678p 45s 99p", "t555z", "6s", y(12), 1, 30, 240, 1000);
        taken("345m 678p 45s 99p", "t666z", "6s", y(13), 1, 30, 240, 1000);
        taken("345m 678p 45s 99p", "t777z", "6s", y(14), 1, 30, 240, 1000);
        taken("666s 99p 33z", "t222m t444p", "9p", y(19), 2, 40, 640, 2600);
        taken("222m 444p 777s 3z", "r678m", "3z", y(20), 2, 40, 640, 2600);
        taken("345s 3z", "c2222m a4444p q6666s", "3z", y(21), 2, 60, 960, 3900);
        taken("33s 678m 99p", "t333m t333p", "3s", y(22), 2, 30, 480, 2000);
        taken("77z 345m 67p", "t555z t666z", "8p", y(12, 13, 23), 4, 30, 1920, 7700);
        taken("567p 45s 88s 345m", "r234m", "6s", y(24), 1, 30, 240, 1000);
        taken("999s 11z 33z", "t111m t999p", "3z", y(19, 25), 4, 50, 2000, 8000);
        openByWhatHappened();

        CHECK.sentence("A closed quad counts as closed.");
        has(20, true, "345s 3z", "c2222m c4444p c6666s", "3z");
        has(32, true, "222m 777s 5s 333z", "c4444p", "5s");
        CHECK.due("closed with a closed quad", yakuOf("345m 678p 45s 99p", "c3333z", "6s", true), Check.bits(3));
    }

    /** Open hands whose only yaku are 4, 5, 6 and 7: they are worth one han. */
    private static void openByWhatHappened() {
        RiichiTable table = new Scene().hand(1, "3z 147m 258p 39s 14z").hand(0, "333z 234m 678m 345p 6s").hand(2, "147m 258p 39s 5z").hand(3, "147m 258p 39s 5z")
                .draws("6z 6z 1z").indicators("11s", "").replacements("6s").deal();
        Scene.letGo(table, k("6z"));
        table.discard(k("3z"), false);
        table.claim(0, 3, 0);
        CHECK.due("4 in an open hand", table.win(), 1);
        CHECK.due("4 in an open hand", table.yaku(0), Check.bits(4));

        table = new Scene().hand(0, "4z 159m 159p 15s 1266z").hand(1, "33s 22z 7m 37p 339m 5m 6m 8s")
                .hand(2, "44z 1z 123m 678m 12s 99p").hand(3, "3s 258m 258p 8s 2z 77z 9s").draws("5z 5z 5z 6z 6z 3s").indicators("4z", "").deal();
        table.discard(k("4z"), false);
        table.claim(2, 2, 0);
        Scene.letGo(table, k("1z"));
        table.discard(k("3s"), false);
        table.claim(1, 2, 0);
        Scene.pass(table);
        Scene.letGo(table, k("5m"));
        Scene.letGoDrawn(table, 3);
        CHECK.due("added", table.quad(k("3s")), 2);
        table.claim(2, 4, 0);
        CHECK.due("5 in an open hand", table.yaku(2), Check.bits(5));
        CHECK.due("5 in an open hand", table.worth(2, 0), 1);

        for (int last = 6; last <= 7; last++) {
            table = new Scene().hand(0, "3z 77z 147m 258p 8s 49s 1z").hand(1, "33z 7z 234m 678m 67s 99p").hand(2, "5588s 147m 258p 146z")
                    .hand(3, "58s 147m 258p 13469s").put(121, "5s").indicators("1z", "").deal();
            table.discard(k("3z"), false);
            table.claim(1, 2, 0);
            table.discard(k("7z"), false);
            // When player 0 takes 7z, player 1 draws last, else player 2.
            table.claim(0, last == 6 ? 2 : 0, 0);
            if (last == 6) Scene.letGo(table, k("1m"));
            Scene.letGoDrawn(table, 68);
            CHECK.due("left", table.table(4), 0);
            if (last == 6) {
                table.win();
            } else {
                table.discard(k("5s"), false);
                table.claim(1, 4, 0);
            }
            CHECK.due(last + " in an open hand", table.yaku(1), Check.bits(last));
            CHECK.due(last + " in an open hand", table.worth(1, 0), 1);
        }
    }

    private static void limitHan() {
        CHECK.sentence("(one or more of them: the han are 13, and no other yaku counts)");
        drawn("222m 444p 777s 33z 55s", "", "3z", y(32), 13, 50, 8000, 32000);
        drawn("777z 66z 222z 11z 333z", "", "1z", y(32, 37), 13, 60, 8000, 32000);
        taken("5s", "c2222m c4444p c6666s c3333z", "5s", y(32, 33), 13, 120, 8000, 32000);
        told("222m 444p 777s 33z 55s", "", "3z", "1m", true, y(32), 13, 50, 8000);
    }

    private static void orphans() {
        CHECK.sentence("30 orphans.");
        taken("19m 19p 19s 1234567z", "", "1m", y(30), 13, 30, 8000, 32000);
        drawn("119m 19p 19s 123456z", "", "7z", y(30), 13, 30, 8000, 32000);
        taken("99m 19p 19s 1234567z", "", "1m", y(30), 13, 30, 8000, 32000);
    }

    private static void nineGates() {
        CHECK.sentence("31 closed without quads, one suit alone, ranks 1 and 9 three times at least, 2 .. 8 once at least.");
        for (String suit : new String[] {"m", "p", "s"}) {
            for (int last = 1; last <= 9; last++) has(31, true, "1112345678999" + suit, "", last + suit);
        }
        taken("1112345678999m", "", "5m", y(31), 13, 50, 8000, 32000);
        has(31, true, "1112345567899m", "", "9m");
        has(31, false, "1112234567899m", "", "2m");
        has(31, false, "1123456788999m", "", "8m");
        has(31, false, "1112345567999m", "", "5m");
        has(31, false, "1114345678999m", "", "4m");
        taken("2345678999m", "c1111m", "8m", y(29), 6, 80, 3000, 12000);
        has(31, false, "2345678999m", "t111m", "8m");
    }

    private static void closedFour() {
        CHECK.sentence("32 four closed triplets or quads. 33 four quads.");
        drawn("222m 444p 777s 33z 55s", "", "3z", y(32), 13, 50, 8000, 32000);
        taken("222m 444p 777s 33z 55s", "", "3z", y(19, 20), 4, 50, 2000, 8000);
        taken("222m 444p 777s 333z 5s", "", "5s", y(32), 13, 60, 8000, 32000);
        taken("222m 777s 5s 333z", "c4444p", "5s", y(32), 13, 70, 8000, 32000);
        has(32, false, "222m 777s 5s 333z", "q4444p", "5s");
        has(32, false, "222m 777s 5s 333z", "t444p", "5s");
    }

    private static void fourQuads() {
        CHECK.sentence("33 four quads. 34 triplets or quads of all dragons.");
        taken("5s", "c2222m q4444p a6666s c3333z", "5s", y(33), 13, 90, 8000, 32000);
        has(33, false, "5s", "c2222m q4444p a6666s t333z", "5s");
        taken("555z 666z 77z 345m 99p", "", "7z", y(34), 13, 50, 8000, 32000);
        taken("345m 9p", "t555z q6666z t777z", "9p", y(34), 13, 50, 8000, 32000);
        has(34, false, "345m 77z 67p", "t555z t666z", "8p");
    }

    private static void limitHonours() {
        CHECK.sentence("35 of three winds, the pair the fourth; 36 of all four winds. 37 honours only.");
        for (int pair = 0; pair < 4; pair++) {
            StringBuilder three = new StringBuilder();
            for (int i = 0; i < 4; i++) if (i != pair) three.append(Scene.text(27 + i).repeat(3));
            String two = Scene.text(27 + pair).repeat(2);
            has(35, true, three + two + "35m", "", "4m");
            has(35, false, three + "99p 35m", "", "4m");
            has(35, false, three + "55z 35m", "", "4m");
            has(36, false, three + two + "35m", "", "4m");
            has(36, false, three + two + "11m", "", "1m");
            // Two winds and another triplet.
            String first = three.substring(0, 12);
            for (String other : new String[] {"111m", "999s", "555z"}) has(35, false, first + other + two + "35m", "", "4m");
        }
        taken("111z 222z 33z 44z 345m", "", "3z", y(35), 13, 50, 8000, 32000);
        taken("111z 222z 333z 44z 55m", "", "4z", y(36), 13, 60, 8000, 32000);
        has(36, true, "55m 44z", "t111z q2222z a3333z", "4z");
        taken("112233445566z 7z", "", "7z", y(37), 13, 25, 8000, 32000);
        taken("111z 222z 555z 66z 77z", "", "6z", y(37), 13, 60, 8000, 32000);
        has(37, false, "222z 555z 66z 99m", "t111z", "6z");
        has(37, false, "1122334455z 66m 7z", "", "7z");
    }

    private static void limitKinds() {
        CHECK.sentence("38 ranks 1 and 9 only. 39 kinds 19, 20, 21, 23, 25 and 32 only.");
        taken("111m 999m 111p 99p 99s", "", "9s", y(38), 13, 60, 8000, 32000);
        has(38, true, "11p 99p", "t111m t999m t111s", "9p");
        has(38, false, "11p 99p", "t111m t999m t111z", "9p");
        has(38, false, "11p 22p", "t111m t999m t111s", "1p");
        taken("234234s 666s 88s 66z", "", "8s", y(39), 13, 40, 8000, 32000);
        taken("234s 88s 66s", "r234s t666z", "6s", y(39), 13, 30, 8000, 32000);
        has(39, true, "223344s 66s 88s", "t666z", "6s");
        has(39, true, "222333s 666s 88s 44s", "", "8s");
        for (int kind = 0; kind < 34; kind++) {
            // Of 6s and 6z there are not two more.
            if (kind == k("6s") || kind == k("6z")) continue;
            boolean green = kind >= k("2s") && kind <= k("4s") || kind == k("8s");
            has(39, green, "234s 234s 66s" + Scene.text(kind).repeat(2), "t666z", "6s");
        }
    }

    /** The dealer or another one wins by the first draw, with nothing else that counts. */
    private static void firstWins() {
        CHECK.sentence("40 the dealer wins by what is drawn in the first go-round; 41 another one does.");
        for (int seat = 0; seat < 4; seat++) {
            for (int dealer = 0; dealer < 2; dealer++) {
                RiichiTable table = Scene.before(dealer);
                Scene scene = new Scene().draws("1z 1z 1z 2z").put(52 + seat, "5s");
                for (int p = 0; p < 4; p++) scene.hand(p, p == seat ? READY : QUIET);
                scene.dealOn(table);
                Scene.letGoDrawn(table, seat);
                CHECK.due("seat " + seat, table.win(), 13);
                CHECK.due("seat " + seat, table.yaku((seat + dealer) % 4), Check.bits(seat == 0 ? 40 : 41));
                CHECK.due("yaku 8 does not count: fu", table.worth((seat + dealer) % 4, 1), 30);
            }
        }
        // By a discard there is neither.
        RiichiTable table = quiet().hand(0, "147m 258p 369s 345z").hand(1, READY).hand(2, "5s 147m 258p 34z").draws("1z 1z 1z 1z").deal();
        table.discard(k("1z"), false);
        Scene.letGoDrawn(table, 1);
        table.discard(k("5s"), false);
        table.claim(1, 4, 0);
        Scene.pass(table);
        CHECK.due("by a discard", table.yaku(1), Check.bits(8));
    }

    private static void dora() {
        CHECK.sentence("if there is a yaku and no limit yaku, 1 more for each tile of the hand that is the dora of an indicator turned up,"
                + " as often as it is, and in riichi likewise for those under them.");
        told("234m 678m 345p 67s 99p", "", "5s", "1s", false, y(8), 1, 30, 240);
        told("234m 678m 345p 67s 99p", "", "5s", "1m", false, y(8), 2, 30, 480);
        told("234m 678m 345p 67s 99p", "", "5s", "4s", false, y(8), 2, 30, 480);
        told("234m 678m 345p 67s 99p", "", "5s", "8p", false, y(8), 3, 30, 960);
        told("345m 678p 45s 99p", "t777z", "6s", "6z", false, y(14), 4, 30, 1920);
        told("345m 678p 45s 99p", "q7777z", "6s", "6z", false, y(14), 5, 40, 2000);
        // A quad turns up a second one: the same kind again counts again.
        told("345m 678p 45s 99p", "q7777z", "6s", "8p 8p", false, y(14), 5, 40, 2000);
        told("345m 678p 45s 99p", "q7777z", "6s", "6z 6z", false, y(14), 9, 40, 4000);
        told("222m 444p 777s 33z 55s", "", "3z", "2z", true, y(32), 13, 50, 8000);
        // Without a yaku dora are nothing.
        HandScene scene = new HandScene(1, "234m 678m 345p 46s 99p", "", "5s", false).indicators("8p");
        CHECK.due("dora alone", scene.win(scene.play()), false);
        for (int riichi = 0; riichi < 2; riichi++) {
            RiichiTable table = new Scene().hand(0, READY).hand(1, "5s 147m 258p 34z 1s 2s").hand(2, QUIET).hand(3, QUIET)
                    .draws("1z 7z 7z 7z 6z 7z").indicators("1s", "8p").deal();
            Scene.letGoDrawn(table, 4);
            table.discard(k("6z"), riichi == 1);
            Scene.pass(table);
            table.discard(k("5s"), false);
            table.claim(0, 4, 0);
            Scene.pass(table);
            CHECK.due("under it, riichi " + riichi, table.worth(0, 0), riichi == 1 ? 5 : 1);
        }
    }

    private static void fuOfPairsAndFlat() {
        CHECK.sentence("FU: seven pairs 25; yaku 8, when it counts (no limit yaku), won by what is drawn 20;"
                + " else 20, and 10 if closed and won by another's tile;");
        taken("1144m 2277p 3355s 6z", "", "6z", y(26), 2, 25, 400, 1600);
        drawn("1144m 2277p 3355s 6z", "", "6z", y(3, 26), 3, 25, 800, 3200);
        taken("112233445566z 7z", "", "7z", y(37), 13, 25, 8000, 32000);
        drawn("234m 678m 345p 67s 99p", "", "5s", y(3, 8), 2, 20, 320, 1500);
        taken("234m 678m 345p 67s 99p", "", "5s", y(8), 1, 30, 240, 1000);
        RiichiTable table = new Scene().hand(0, READY).draws("5s").deal();
        CHECK.due("limit", table.win(), 13);
        CHECK.due("yaku 8 does not count", table.worth(0, 1), 30);

        CHECK.sentence("2 if won by what is drawn;");
        // 20, 4 for 777z, 4 for 222p, 2 for 55z: 30 before it.
        taken("222p 456m 67s 55z", "t777z", "8s", y(14), 1, 30, 240, 1000);
        drawn("222p 456m 67s 55z", "t777z", "8s", y(14), 1, 40, 320, 1500);

        CHECK.sentence("2 for a pair of dragons, 2 of the seat wind, 2 of the round wind;");
        // 20, 4 for 777z, 4 for 222p, 2 for the middle: 30 before the pair.
        String[] pairs = {"11z", "22z", "33z", "44z", "55z", "66z", "99p"};
        for (int i = 0; i < pairs.length; i++) {
            boolean worth = i == 0 || i == 1 || i == 4 || i == 5;
            taken("222p 456m 68s" + pairs[i], "t777z", "7s", y(14), 1, worth ? 40 : 30, worth ? 320 : 240, worth ? 1300 : 1000);
        }
        // 28 before the pair: 2 make 30.
        for (String pair : new String[] {"11z", "22z", "33z", "55z", "66z"}) {
            taken("222p 456m 67s" + pair, "t777z", "8s", y(14), 1, 30, 240, 1000);
        }
        // Both winds of the dealer: 28 and 4 are more than 30, 28 and 2 are not.
        HandScene.row(CHECK, 0, "222p 456m 67s 11z", "t777z", "8s", false, y(14), 1, 40, 320, 2000);
        HandScene.row(CHECK, 0, "222p 456m 67s 55z", "t777z", "8s", false, y(14), 1, 30, 240, 1500);
        HandScene.row(CHECK, 0, "222p 456m 67s 22z", "t777z", "8s", false, y(14), 1, 30, 240, 1500);
    }

    /** Two triplets in all forms, with a pair, a wait and by what: the sum before it is rounded tells all parts. */
    private static void fuOfSets() {
        CHECK.sentence("for each triplet 2, twice that if closed, twice if outer, and four times if it is a quad;");
        String[] forms = {"", "t", "q", "a", "c"};
        int[] outer = {8, 4, 16, 16, 32};
        int[] inner = {4, 2, 8, 8, 16};
        for (int a = 0; a < 5; a++) {
            for (int b = 0; b < 5; b++) {
                for (int rest = 0; rest < 8; rest++) {
                    boolean middle = (rest & 1) != 0;
                    boolean dragons = (rest & 2) != 0;
                    boolean byDraw = (rest & 4) != 0;
                    boolean closed = (a == 0 || a == 4) && (b == 0 || b == 4);
                    String hand = "456m" + (a == 0 ? "777z" : "") + (b == 0 ? "222p" : "") + (middle ? "68s" : "67s") + (dragons ? "55z" : "33z");
                    String first = a == 0 ? "" : forms[a] + (a == 1 ? "777z" : "7777z");
                    String second = b == 0 ? "" : forms[b] + (b == 1 ? "222p" : "2222p");
                    int sum = 20 + outer[a] + inner[b] + (middle ? 2 : 0) + (dragons ? 2 : 0) + (byDraw ? 2 : closed ? 10 : 0);
                    int fu = (sum + 9) / 10 * 10;
                    HandScene scene = new HandScene(1, hand, (first + " " + second).trim(), middle ? "7s" : "8s", byDraw);
                    RiichiTable table = scene.play();
                    String name = hand + " | " + first + " " + second + (byDraw ? " drawn" : "");
                    CHECK.due(name + " is won", scene.win(table), true);
                    CHECK.due(name + " fu of " + sum, table.worth(1, 1), fu);
                }
            }
        }
        // The last tile's own triplet: open if it is another's.
        taken("555z 345m 678p 44s 33z", "", "4s", y(12), 1, 40, 320, 1300);
    }

    private static void fuOfLast() {
        CHECK.sentence("2 if the last tile is in the pair, or the middle of a run, or the third kind of run 1 2 3, or the first of 7 8 9;");
        // 20, 4 for 777z, 4 for 222p, 2 for 55z: 30 before the last tile.
        for (int rank = 1; rank <= 7; rank++) {
            for (int i = 0; i < 3; i++) {
                StringBuilder rest = new StringBuilder();
                for (int j = 0; j < 3; j++) if (j != i) rest.append(rank + j);
                boolean worth = i == 1 || i == 2 && rank == 1 || i == 0 && rank == 7;
                taken("222p 456m" + rest + "s 55z", "t777z", rank + i + "s", y(14), 1, worth ? 40 : 30, worth ? 320 : 240, worth ? 1300 : 1000);
            }
        }
        taken("222p 456m 678s 5z", "t777z", "5z", y(14), 1, 40, 320, 1300);
        // In a triplet nothing.
        taken("22p 456m 678s 55z", "t777z", "2p", y(14), 1, 30, 240, 1000);
    }

    private static void fuRounded() {
        CHECK.sentence("made a multiple of 10 upwards; and 30 if that is 20 and the hand is not closed. Orphans 30.");
        // 30 stays, 32 is 40.
        taken("222p 456m 67s 55z", "t777z", "8s", y(14), 1, 30, 240, 1000);
        taken("222p 456m 68s 55z", "t777z", "7s", y(14), 1, 40, 320, 1300);
        // 20 of an open hand is 30; 22 is 30.
        taken("567p 45s 88s 345m", "r234m", "6s", y(24), 1, 30, 240, 1000);
        drawn("567p 45s 88s 345m", "r234m", "6s", y(24), 1, 30, 240, 1100);
        // 20 of a closed hand stays, as it is yaku 8.
        drawn("234m 678m 345p 67s 99p", "", "5s", y(3, 8), 2, 20, 320, 1500);
        taken("19m 19p 19s 1234567z", "", "1m", y(30), 13, 30, 8000, 32000);
        drawn("19m 19p 19s 1234567z", "", "1m", y(30), 13, 30, 8000, 32000);
    }

    private static void base() {
        CHECK.sentence("BASE is fu * 2^(2 + han), at most 2000;");
        taken("234m 678m 345p 67s 99p", "", "5s", y(8), 1, 30, 240, 1000);
        taken("1144m 2277p 3355s 6z", "", "6z", y(26), 2, 25, 400, 1600);
        taken("1199m 1199p 1199s 1z", "", "1z", y(25, 26), 4, 25, 1600, 6400);
        taken("77z 345m 67p", "t555z t666z", "8p", y(12, 13, 23), 4, 30, 1920, 7700);
        taken("3345666p 333s", "c3333m", "3p", y(22, 24), 3, 60, 1920, 7700);
        taken("2234555p", "c2222m c2222s", "2p", y(22, 24), 3, 70, 2000, 8000);
        taken("555z 666z 77z 345m 67p", "", "8p", y(12, 13, 23), 4, 50, 2000, 8000);
        // 1 han with 90 fu, 2 han with 110.
        taken("345m 45s 99p", "c7777z c2222p", "6s", y(14), 1, 80, 640, 2600);
        drawn("345m 46s 55z", "c7777z c9999p", "5s", y(3, 14), 2, 90, 1440, 5900);

        CHECK.sentence("2000 with 5 han, 3000 with 6 and 7, 4000 with 8 to 10, 6000 with 11 and 12, 8000 with 13 and more.");
        told("234345m 68m 99m", "t111m", "7m", "1z", false, y(29), 5, 30, 2000, 8000);
        told("1122m 4466m 88m 33z 5z", "", "5z", "1s", false, y(26, 28), 5, 25, 2000, 8000);
        String six = "234345m 68m 111m 99m";
        told(six, "", "7m", "1z", false, y(29), 6, 40, 3000, 12000);
        told(six, "", "7m", "1m", false, y(29), 7, 40, 3000, 12000);
        told(six, "", "7m", "2m", false, y(29), 8, 40, 4000, 16000);
        told(six, "", "7m", "9m", false, y(29), 9, 40, 4000, 16000);
        told("1122m 4466m 8899m 5m", "", "5m", "3m", false, y(26, 29), 10, 25, 4000, 16000);
        told("2233445566778m", "", "8m", "1z", false, y(8, 24, 27, 29), 11, 30, 6000, 24000);
        told("2233445566778m", "", "8m", "1z", true, y(3, 8, 24, 27, 29), 12, 20, 6000, 24000);
        told("2233445566778m", "", "8m", "1m", false, y(8, 24, 27, 29), 13, 30, 8000, 32000);
        told("1122337788999p", "", "9p", "1z", true, y(3, 8, 18, 27, 29), 14, 20, 8000, 32000);
    }

    private static void worthAnswers() {
        CHECK.sentence("0 the han, 1 the fu; 2 the base; 3 what p got in points then, sticks included."
                + " BAD when p has won none, isn't there, or what is not 0 .. 3.");
        for (int which = 0; which < Phases.MANY; which++) {
            RiichiTable table = Phases.at(which);
            for (int p = -1; p < 5; p++) {
                boolean won = which == Phases.OVER && p == 3 || which == Phases.FINISHED && p >= 0 && p < 4;
                CHECK.due("worth of " + p + " in phase " + which, table.worth(p, 0) != -1, won);
                for (int what : new int[] {Integer.MIN_VALUE, -1, 4, Integer.MAX_VALUE}) CHECK.due("what " + what, table.worth(p, what), -1);
            }
            for (int p : new int[] {Integer.MIN_VALUE, Integer.MAX_VALUE}) CHECK.due("player " + p, table.worth(p, 0), -1);
        }
        CHECK.sentence("Of the latest hand that player p won, its reading that counted:");
        RiichiTable table = new Scene().hand(0, READY).draws("5s").deal();
        table.win();
        wonBy("the first", table, 0, 13, 30, 8000, 48000);
        table.next();
        wonBy("before the next deal", table, 0, 13, 30, 8000, 48000);
        // One honba; a stick of player 1, who loses.
        new Scene().hand(0, "234m 678m 345p 67s 99p").hand(1, "111s 222s 333p 456p 4z").hand(2, QUIET).hand(3, "5s 147m 28p 39s 34z")
                .draws("1z 1z 2z 2z").indicators("1z", "").dealOn(table);
        Scene.letGo(table, k("1z"));
        CHECK.due("riichi", table.discard(k("1z"), true) > 0, true);
        Scene.pass(table);
        wonBy("while it goes on", table, 0, 13, 30, 8000, 48000);
        Scene.letGoDrawn(table, 1);
        table.discard(k("5s"), false);
        table.claim(0, 4, 0);
        Scene.pass(table);
        wonBy("the latest", table, 0, 1, 30, 240, 1500 + 300 + 1000);
        CHECK.due("the loser", table.worth(1, 0), -1);
        table.next();
        Scene.orphansDrawn(table, 1);
        wonBy("when another one won", table, 0, 1, 30, 240, 2800);
        CHECK.due("the other one's honba", table.worth(1, 3), 32000 + 600);
    }

    private static void wonBy(String name, RiichiTable table, int p, int... want) {
        for (int i = 0; i < 4; i++) CHECK.due(name + ": worth " + i, table.worth(p, i), want[i]);
    }

    private static void yakuAnswers() {
        CHECK.sentence("the sum of 2^y; 0 when p has won none or isn't there.");
        for (int which = 0; which < Phases.MANY; which++) {
            RiichiTable table = Phases.at(which);
            for (int p = -1; p < 5; p++) {
                long want = which == Phases.OVER && p == 3 ? Check.bits(8, 24)
                        : which == Phases.FINISHED && p >= 0 && p < 4 ? Check.bits(30, 41) : 0;
                CHECK.due("yaku of " + p + " in phase " + which, table.yaku(p), want);
            }
            for (int p : new int[] {Integer.MIN_VALUE, Integer.MAX_VALUE}) CHECK.due("player " + p, table.yaku(p), 0);
        }
    }
}
