/** The boundary cases that the terms name of tiles, sets, complete hands, waits and players. */
public final class EdgesOfTilesTest {
    private static final Check CHECK = new Check();
    private static final String QUIET = "147m 258p 369s 345z";

    public static void main(String[] args) {
        fourOfEach();
        suits();
        honours();
        endsOfSuits();
        sets();
        outerKinds();
        closedHands();
        setsWithMelds();
        sevenPairs();
        orphans();
        allFour();
        ready();
        points();
        seatWinds();
        roundWinds();
        nextPlayers();
        CHECK.end();
    }

    private static int k(String text) {
        return Scene.kind(text);
    }

    private static void fourOfEach() {
        CHECK.sentence("TILES have KINDS 0 .. 33, four tiles of each.");
        for (int kind = -2; kind < 36; kind++) {
            RiichiTable table = new RiichiTable(kind);
            boolean there = kind >= 0 && kind <= 33;
            for (int i = 0; i < 4; i++) CHECK.due("tile " + i + " of " + kind, table.arrange(i, kind), there);
            CHECK.due("a fifth of " + kind, table.arrange(4, kind), false);
            table.deal();
            CHECK.due("all of " + kind, table.concealed(0, kind), there ? 4 : 0);
        }
    }

    /** Player 1 has two of three kinds in a row, player 0 discards the third. */
    private static void suits() {
        CHECK.sentence("Kinds 0 .. 26 are in three SUITS of nine: suit k / 9, RANK k % 9 + 1.");
        for (int low = 0; low < 32; low++) {
            for (int i = 0; i < 3; i++) {
                String name = "run of " + low + " with its tile " + i;
                RiichiTable table = rowOfThree(low, low + i);
                boolean isRun = low < 27 && low / 9 == (low + 2) / 9;
                table.discard(low + i, false);
                CHECK.due(name + " is an option", table.options(1) & 2, isRun ? 2 : 0);
                for (int p = 2; p < 4; p++) table.claim(p, 0, 0);
                CHECK.due(name, table.claim(1, 1, low), isRun ? 1 : -1);
                CHECK.due(name + " lies there", table.meld(1, 0), isRun ? 4 * low : -1);
            }
        }
    }

    /** What would be complete, if runs went over the end of a suit. */
    private static void endsOfSuits() {
        CHECK.sentence("three kinds of a suit with ranks r, r + 1, r + 2;");
        String[] hands = {"89m 1p 456p 789p 456s 3z", "9m 12p 456p 789p 456s 3z", "89p 1s 456m 789m 456s 3z", "9p 12s 456m 789m 456s 3z",
            "89s 1z 456p 789p 456m 3z", "9s 12z 456p 789p 456m 3z", "891m 456p 789p 456s 3z", "912m 456p 789p 456s 3z"};
        for (String hand : hands) CHECK.due(hand + " is complete", new HandScene(1, hand, "", "3z", true).play().win(), -1);
        RiichiTable table = new HandScene(1, "789m 456p 789p 456s 3z", "", "3z", true).play();
        CHECK.due("789m is one", table.win() > 0, true);
    }

    private static void sets() {
        CHECK.sentence("A SET is a RUN (three kinds of a suit with ranks r, r + 1, r + 2; it is named by its lowest kind)");
        for (int i = 0; i < 3; i++) {
            RiichiTable table = rowOfThree(k("7s"), k("7s") + i);
            table.discard(k("7s") + i, false);
            for (int p = 2; p < 4; p++) table.claim(p, 0, 0);
            for (int low : new int[] {k("5s"), k("6s"), k("8s"), k("9s")}) CHECK.due("named by " + low, table.claim(1, 1, low), -1);
            CHECK.due("named by the lowest", table.claim(1, 1, k("7s")), 1);
        }
    }

    /** Three kinds of honours in a row are no run; and pairs of all seven are honours alone. */
    private static void honours() {
        CHECK.sentence("27 .. 30 are the WINDS east, south, west, north, 31 .. 33 the DRAGONS white, green, red; together the HONOURS.");
        for (int low = 27; low < 32; low++) {
            HandScene scene = new HandScene(1, Scene.text(low) + Scene.text(low + 2) + "345m 678p 456s 99p", "", Scene.text(low + 1), true);
            CHECK.due("no set of " + low, scene.play().win(), -1);
        }
        HandScene scene = new HandScene(1, "112233445566z 7z", "", "7z", false);
        RiichiTable table = scene.play();
        CHECK.due("won", scene.win(table), true);
        CHECK.due("all seven", table.yaku(1), Check.bits(37));
    }

    private static RiichiTable rowOfThree(int low, int tile) {
        Scene scene = new Scene().draws(Scene.text(tile));
        StringBuilder hand = new StringBuilder();
        for (int kind = low; kind < low + 3; kind++) if (kind != tile) hand.append(Scene.text(kind));
        int others = 0;
        for (int kind = 0; kind < 34 && others < 11; kind++) {
            if (kind < tile - 2 || kind > tile + 2) {
                hand.append(Scene.text(kind));
                others++;
            }
        }
        return scene.hand(1, hand.toString()).deal();
    }

    /** Seven pairs, one of them of the kind, the others all inner ones, or all outer ones. */
    private static void outerKinds() {
        CHECK.sentence("OUTER kinds are those of rank 1 and 9 and the honours, the others INNER.");
        String[] inner = {"2m", "5m", "8m", "3p", "6p", "4s", "7s"};
        String[] outer = {"1m", "9m", "1p", "9p", "9s", "3z", "7z"};
        for (int kind = 0; kind < 34; kind++) {
            int rank = kind % 9 + 1;
            boolean isOuter = kind >= 27 || rank == 1 || rank == 9;
            CHECK.due("inner pairs and " + kind, pairsWith(kind, inner) >> 24 & 3, isOuter ? 0 : 1);
            CHECK.due("outer pairs and " + kind, pairsWith(kind, outer) >> 24 & 3, isOuter ? 2 : 0);
        }
    }

    private static long pairsWith(int kind, String[] others) {
        StringBuilder hand = new StringBuilder(Scene.text(kind)).append(Scene.text(kind));
        int used = 0;
        for (String other : others) {
            if (used < 5 && k(other) != kind) {
                hand.append(other).append(other);
                used++;
            }
        }
        String last = kind == k("5p") ? "4p" : "5p";
        if (others[0].equals("1m")) last = kind == k("4z") ? "5z" : "4z";
        HandScene scene = new HandScene(1, hand + last, "", last, false);
        RiichiTable table = scene.play();
        CHECK.due(hand + " is won", scene.win(table), true);
        CHECK.due(hand + " is seven pairs", table.yaku(1) >> 26 & 1, 1);
        return table.yaku(1);
    }

    private static void closedHands() {
        CHECK.sentence("a hand without open melds is CLOSED.");
        // By draw: yaku 3 is for closed hands alone.
        String[][] hands = {{"777z 345m 678p 45s 99p", ""}, {"345m 678p 45s 99p", "c7777z"}, {"345m 678p 45s 99p", "t777z"},
            {"345m 678p 45s 99p", "q7777z"}, {"345m 678p 45s 99p", "a7777z"}, {"777z 678p 45s 99p", "r345m"},
            {"345m 45s 99p", "c7777z c2222p"}, {"345m 45s 99p", "c7777z t222p"}};
        for (int i = 0; i < hands.length; i++) {
            HandScene scene = new HandScene(1, hands[i][0], hands[i][1], "6s", true);
            RiichiTable table = scene.play();
            CHECK.due("won", scene.win(table), true);
            boolean closed = i < 2 || i == 6;
            CHECK.due("closed with melds " + hands[i][1], table.yaku(1) >> 3 & 1, closed ? 1 : 0);
        }
    }

    private static void waitsOf(String hand, String want) {
        RiichiTable table = new Scene().hand(1, hand).draws("3z").deal();
        CHECK.due("waits of " + hand, table.waits(1), Scene.mask(want));
    }

    private static void setsWithMelds() {
        CHECK.sentence("the concealed tiles with the last one can be taken apart into sets (runs and triplets)"
                + " and one PAIR (two of a kind), four sets together with the melds;");
        String[][] hands = {{"234m 678m 345p 67s 99p", ""}, {"678m 345p 67s 99p", "t777z"}, {"345p 67s 99p", "t777z c2222z"},
            {"67s 99p", "t777z c2222z q6666z"}};
        for (String[] hand : hands) waitsWithMelds(hand[0], hand[1], "58s");
        waitsWithMelds("9p", "t777z c2222z a6666z r234m", "9p");
        // Two pairs wait for both, three do not; nor do sets without a pair to come.
        waitsOf("234m 678m 345p 44s 99p", "4s 9p");
        waitsOf("234m 678m 11p 44s 99p 7s", "");
        waitsOf("234m 678m 345p 678s 9p", "9p");
        waitsOf("234m 678m 345p 6s 9s 9p 1z", "");
        waitsOf("234m 678m 345p 66s 9p 1z", "");
        waitsWithMelds("67s 9p 1z 234m", "c2222z t777z", "");
    }

    private static void waitsWithMelds(String hand, String melds, String want) {
        RiichiTable table = new HandScene(1, hand, melds, "1s", false).play();
        CHECK.due("waits of " + hand + " with " + melds, table.waits(1), Scene.mask(want));
    }

    private static void sevenPairs() {
        CHECK.sentence("or there are no melds and they are seven pairs of different kinds;");
        waitsOf("1122m 4466p 8899s 1z", "1z");
        waitsOf("1122m 4466p 8888s 1z", "");
        waitsOf("1122m 4466p 8s 1111z", "");
        waitsOf("1122m 4466p 88s 111z", "");
        RiichiTable table = new Scene().hand(0, "7777z 1122m 3344p 5s").hand(1, QUIET).draws("5s").replacements("6z").deal();
        table.quad(k("7z"));
        Scene.letGo(table, k("6z"));
        CHECK.due("five pairs behind a quad", table.waits(0), 0);
        // Two of seven kinds each, three of them in a run that lies there.
        table = new HandScene(1, "123m 4455p 66s 7s", "r123m", "7s", true).play();
        CHECK.due("pairs with a run's tiles", table.win(), -1);
    }

    private static void orphans() {
        CHECK.sentence("or there are no melds and they are one tile at least of every outer kind and nothing else (ORPHANS).");
        waitsOf("19m 19p 19s 1234567z", "19m 19p 19s 1234567z");
        int[] outer = Scene.kinds("19m 19p 19s 1234567z");
        for (int missing = 0; missing < 13; missing++) {
            for (int twice = 0; twice < 13; twice += 5) {
                if (twice == missing) continue;
                StringBuilder hand = new StringBuilder(Scene.text(outer[twice]));
                for (int i = 0; i < 13; i++) if (i != missing) hand.append(Scene.text(outer[i]));
                waitsOf(hand.toString(), Scene.text(outer[missing]));
            }
        }
        waitsOf("9m 119p 19s 1234567z", "1m");
        waitsOf("119p 19s 11234567z", "");
        waitsOf("9m 111p 9p 19s 123456z", "");
        for (String inner : new String[] {"2m", "8m", "5p", "2s", "8s"}) waitsOf("19m 19p 19s 123456z" + inner, "");
    }

    private static void allFour() {
        CHECK.sentence("the kinds that make them complete, without those of which the player has all four (melds included).");
        waitsOf("1111m 234p 567p 789s", "");
        waitsOf("1111m 23m 567p 789s 1z", "1z");
        waitsOf("2222m 34m 567p 789s 1z", "1z");
        waitsOf("111m 23m 567p 789s 55z", "14m 5z");
        waitsOf("1112m 567p 789s 555z", "23m");
        for (String quad : new String[] {"c1111m", "q1111m", "a1111m"}) waitsWithMelds("23m 789s 567p 55z", quad, "4m");
        waitsWithMelds("23m 789s 567p 55z", "t111m", "14m");
        // Three concealed ones and one in a run, two and one; three in a triplet and one concealed, three and none.
        waitsWithMelds("555m 46m 99p 789s", "r567m", "9p");
        waitsWithMelds("55m 46m 333p 789s", "r567m", "5m");
        waitsWithMelds("1m 567p 789s 555z", "t111m", "");
        waitsWithMelds("2m 567p 789s 555z", "t111m", "2m");
    }

    private static void ready() {
        CHECK.sentence("READY: there is a wait.");
        String[] hands = {"1111m 234p 567p 789s", "111m 234p 567p 789s 2m"};
        for (int i = 0; i < 2; i++) {
            Scene scene = new Scene().hand(0, hands[i]);
            for (int seat = 1; seat < 4; seat++) scene.hand(seat, "258m 147p 369s 3456z");
            RiichiTable table = scene.draws("1z").deal();
            CHECK.due("riichi with " + hands[i], table.discard(k("1z"), true) > 0, i == 1);
            table = scene.deal();
            Scene.letGoDrawn(table, 70);
            CHECK.due("drawn out", table.phase(), 3);
            CHECK.due("points of " + hands[i], table.points(0), i == 1 ? 33000 : 30000);
        }
    }

    private static void points() {
        CHECK.sentence("Players 0 .. 3, each with 30000 points.");
        RiichiTable table = new RiichiTable(1);
        for (int p : new int[] {Integer.MIN_VALUE, -1, 0, 1, 2, 3, 4, Integer.MAX_VALUE}) {
            CHECK.due("points of " + p, table.points(p), p >= 0 && p <= 3 ? 30000 : 0);
        }
    }

    /** In each seat each wind, before a tile that makes the hand complete; a yaku is in the winds alone. */
    private static boolean windCanWin(int hand, int seat, int wind) {
        RiichiTable table = Scene.before(hand);
        int feeder = (seat + 3) % 4;
        Scene scene = new Scene().draws("7777z 1p");
        for (int s = 0; s < 4; s++) {
            scene.hand(s, s == seat ? Scene.text(27 + wind).repeat(3) + "345m 678p 45s 99p" : s == feeder ? "6s 147m" : "147m 28p 39s");
        }
        scene.dealOn(table);
        // The winner has the feeder's tile before or behind their own first discard.
        Scene.letGoDrawn(table, feeder);
        CHECK.due("the feeder", table.who(), (table.table(0) + feeder) % 4);
        table.discard(k("6s"), false);
        return (table.options((table.table(0) + seat) % 4) & 16) != 0;
    }

    private static void seatWinds() {
        CHECK.sentence("The dealer is player 0 at first; p's SEAT WIND is kind 27 + (p - dealer) modulo 4.");
        CHECK.due("dealer", new RiichiTable(3).table(0), 0);
        for (int dealer = 0; dealer < 4; dealer++) {
            for (int seat = 0; seat < 4; seat++) {
                for (int wind = 1; wind < 4; wind++) {
                    CHECK.due("wind " + wind + " of player " + (dealer + seat) % 4 + ", dealer " + dealer,
                            windCanWin(dealer, seat, wind), wind == seat);
                }
            }
        }
    }

    private static void roundWinds() {
        CHECK.sentence("A ROUND is 0 or 1, the ROUND WIND is kind 27 + round.");
        for (int hand = 0; hand < 8; hand++) {
            CHECK.due("round of hand " + hand, Scene.before(hand).table(1), hand / 4);
            for (int wind = 0; wind < 4; wind++) {
                CHECK.due("wind " + wind + " in hand " + hand, windCanWin(hand, 3, wind), wind == hand / 4 || wind == 3);
            }
        }
    }

    private static void nextPlayers() {
        CHECK.sentence("The next player behind p is (p + 1) % 4.");
        for (int dealer = 0; dealer < 4; dealer++) {
            RiichiTable table = Scene.before(dealer);
            table.deal();
            for (int turn = 0; turn < 9; turn++) {
                CHECK.due("turn " + turn + " of dealer " + dealer, table.who(), (dealer + turn) % 4);
                Scene.letGoDrawn(table, 1);
            }
        }
    }
}
