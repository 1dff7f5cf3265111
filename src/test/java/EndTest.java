/** Promises 9, 18, 19 and 20: payments, hands that are drawn out, dealers, rounds and the end. */
public final class EndTest {
    private static final Check CHECK = new Check();
    private static final String READY = "234m 678m 345p 67s 99p";
    private static final String ORPHANS = "19m 19p 19s 1234567z";
    private static final String QUIET = "147m 258p 369s 345z";

    public static void main(String[] args) {
        honbaByTile();
        honbaByDraw();
        honbaWithSeveralWinners();
        for (int ready = 0; ready < 16; ready++) drawnOut(ready);
        rounds();
        secondRoundWind();
        sticksAtTheEnd(false);
        sticksAtTheEnd(true);
        seatWinds();
        nothingStays();
        CHECK.end();
    }

    private static int k(String text) {
        return Scene.kind(text);
    }

    private static void points(String name, RiichiTable table, int... want) {
        for (int p = 0; p < 4; p++) CHECK.due(name + ": points of " + p, table.points(p), want[p]);
        CHECK.due(name + ": points of 4", table.points(4), 0);
        CHECK.due(name + ": points of -1", table.points(-1), 0);
    }

    /** Dealer, round, honba and sticks. */
    private static void table(String name, RiichiTable table, int... want) {
        for (int i = 0; i < 4; i++) CHECK.due(name + ": table " + i, table.table(i), want[i]);
    }

    private static RiichiTable dealerHasWon() {
        RiichiTable table = new Scene().hand(0, READY).draws("5s").deal();
        CHECK.due("dealer wins", table.win(), 13);
        points("dealer wins", table, 78000, 14000, 14000, 14000);
        table("dealer stays", table, 0, 0, 1, 0);
        CHECK.due("phase", table.phase(), 3);
        CHECK.due("next", table.next(), true);
        return table;
    }

    private static void honbaByTile() {
        RiichiTable table = dealerHasWon();
        new Scene().hand(0, QUIET).hand(1, READY).hand(2, "5s 147m 258p 34z").hand(3, QUIET).draws("7z 1z 7z")
                .indicators("1s", "1s").dealOn(table);
        CHECK.due("the same dealer", table.who(), 0);
        Scene.letGo(table, k("7z"));
        CHECK.due("riichi", table.discard(k("1z"), true), 1);
        table("stick", table, 0, 0, 1, 1);
        points("stick", table, 78000, 13000, 14000, 14000);
        table.discard(k("5s"), false);
        CHECK.due("won", table.claim(1, 4, 0), 3);
        CHECK.due("got", table.worth(1, 3), 9000);
        CHECK.due("base", table.worth(1, 2), 1920);
        points("honba and stick", table, 78000, 22000, 6000, 14000);
        table("next dealer", table, 1, 0, 0, 0);
        CHECK.due("the dealer's worth stays", table.worth(0, 3), 48000);
        CHECK.due("the dealer's yaku stay", table.yaku(0), Check.bits(40));
        CHECK.due("worth -1", table.worth(1, -1), -1);
        CHECK.due("worth 4", table.worth(1, 4), -1);
        CHECK.due("worth of -1", table.worth(-1, 0), -1);
        CHECK.due("worth of 4", table.worth(4, 0), -1);
        CHECK.due("worth of a loser", table.worth(2, 0), -1);
        CHECK.due("yaku of a loser", table.yaku(2), 0);
        CHECK.due("yaku of -1", table.yaku(-1), 0);
        CHECK.due("yaku of 4", table.yaku(4), 0);
        CHECK.due("what was won is not concealed", table.concealed(1, k("5s")), 0);
        CHECK.due("left in OVER", table.table(4), 67);
    }

    private static void honbaByDraw() {
        RiichiTable table = dealerHasWon();
        new Scene().hand(0, QUIET).hand(1, ORPHANS).draws("6m 1m").dealOn(table);
        Scene.letGo(table, k("6m"));
        CHECK.due("won", table.win(), 13);
        CHECK.due("got", table.worth(1, 3), 32300);
        points("honba", table, 61900, 46300, 5900, 5900);
        table("next dealer", table, 1, 0, 0, 0);

        table = dealerHasWon();
        new Scene().hand(0, ORPHANS).draws("1m").dealOn(table);
        CHECK.due("won again", table.win(), 13);
        CHECK.due("the latest hand", table.worth(0, 3), 48300);
        points("honba of the dealer", table, 126300, -2100, -2100, -2100);
        table("dealer stays", table, 0, 0, 2, 0);
    }

    /** Player 1 pays 3 and then the dealer; the honba and the stick go to player 3. */
    private static void honbaWithSeveralWinners() {
        RiichiTable table = dealerHasWon();
        new Scene().hand(0, "345m 678m 34p 678s 88s").hand(1, "5p 19m 1234z 19s").hand(2, QUIET)
                .hand(3, "567m 234s 67p 456s 77s").draws("6z 7z").indicators("1z", "1z").dealOn(table);
        CHECK.due("riichi", table.discard(k("6z"), true), 1);
        table.discard(k("5p"), false);
        CHECK.due("first", table.claim(0, 4, 0), 2);
        CHECK.due("second", table.claim(3, 4, 0), 3);
        CHECK.due("yaku of the dealer", table.yaku(0), Check.bits(1, 2, 8, 24));
        CHECK.due("the dealer gets", table.worth(0, 3), 12000);
        CHECK.due("player 3 gets", table.worth(3, 3), 3300);
        points("two winners", table, 89000, -300, 14000, 17300);
        table("the dealer stays", table, 0, 0, 2, 0);
    }

    private static void drawnOut(int ready) {
        String[] hands = {"111m 222m 333m 444m 1z", "555m 666m 777m 888m 2z", "111p 222p 333p 444p 3z", "555p 666p 777p 888p 4z"};
        String[] others = {"1122m 3344m 567z 69s", "5566m 7788m 567z 58s", "1122p 3344p 567z 49s", "5566p 7788p 567z 39s"};
        Scene scene = new Scene();
        for (int p = 0; p < 4; p++) scene.hand(p, (ready >> p & 1) != 0 ? hands[p] : others[p]);
        RiichiTable table = scene.deal();
        Scene.letGoDrawn(table, 69);
        String name = "ready " + ready;
        CHECK.due(name + " still going", table.phase(), 1);
        CHECK.due(name + " left", table.table(4), 0);
        Scene.letGoDrawn(table, 1);
        CHECK.due(name + " phase", table.phase(), 3);
        int many = Integer.bitCount(ready);
        int[] gets = {0, 3000, 1500, 1000, 0};
        int[] pays = {0, 1000, 1500, 3000, 0};
        int[] want = new int[4];
        for (int p = 0; p < 4; p++) want[p] = 30000 + ((ready >> p & 1) != 0 ? gets[many] : -pays[many]);
        points(name, table, want);
        table(name, table, ready % 2 == 1 ? 0 : 1, 0, 1, 0);
        for (int p = 0; p < 4; p++) CHECK.due(name + " waits of " + p, table.waits(p) != 0, (ready >> p & 1) != 0);
        CHECK.due(name + " river", table.river(0, 17) >= 0 && table.river(0, 18) == -1 && table.river(1, 17) >= 0
                && table.river(2, 16) >= 0 && table.river(2, 17) == -1, true);
        CHECK.due(name + " next", table.next(), true);
        CHECK.due(name + " deal", table.deal(), true);
        CHECK.due(name + " who", table.who(), ready % 2 == 1 ? 0 : 1);
        CHECK.due(name + " empty river", table.river(0, 0), -1);
    }

    /** The player of a seat has all outer kinds and wins by the first draw. */
    private static void rounds() {
        RiichiTable table = new RiichiTable(2026);
        int[] points = {30000, 30000, 30000, 30000};
        for (int hand = 0; hand < 8; hand++) {
            int dealer = hand % 4;
            table("hand " + hand, table, dealer, hand / 4, 0, 0);
            Scene.orphansDrawn(table, 1);
            for (int p = 0; p < 4; p++) points[p] += p == dealer ? -16000 : p == (dealer + 1) % 4 ? 32000 : -8000;
            points("hand " + hand, table, points);
            CHECK.due("phase", table.phase(), hand == 7 ? 4 : 3);
            CHECK.due("next", table.next(), hand < 7);
        }
        table("dealer and round stay", table, 3, 1, 0, 0);
        isFinished(table);
        CHECK.due("worth stays", table.worth(0, 0), 13);
        CHECK.due("yaku stay", table.yaku(0), Check.bits(30, 41));

        // The dealer of the last hand goes on winning.
        table = new RiichiTable(2027);
        for (int hand = 0; hand < 7; hand++) {
            Scene.orphansDrawn(table, 1);
            table.next();
        }
        Scene.orphansDrawn(table, 0);
        CHECK.due("not finished", table.phase(), 3);
        table("one hand more", table, 3, 1, 1, 0);
        table.next();
        Scene.orphansDrawn(table, 1);
        CHECK.due("finished", table.phase(), 4);
        table("no honba then", table, 3, 1, 0, 0);
    }

    private static void isFinished(RiichiTable table) {
        int state = table.state();
        CHECK.due("who", table.who(), -1);
        CHECK.due("drawn", table.drawn(), -1);
        CHECK.due("left", table.table(4), 0);
        CHECK.due("quads", table.table(5), 0);
        for (int p = 0; p < 4; p++) {
            for (int kind = 0; kind < 34; kind += 8) CHECK.due("concealed", table.concealed(p, kind), 0);
            CHECK.due("meld", table.meld(p, 0), -1);
            CHECK.due("river", table.river(p, 0), -1);
            CHECK.due("waits", table.waits(p), 0);
            CHECK.due("furiten", table.furiten(p), false);
            CHECK.due("options", table.options(p), 0);
            CHECK.due("claim", table.claim(p, 0, 0), -1);
        }
        CHECK.due("options of 4", table.options(4), -1);
        CHECK.due("arrange", table.arrange(0, 0), false);
        CHECK.due("deal", table.deal(), false);
        CHECK.due("next", table.next(), false);
        CHECK.due("discard", table.discard(0, false), -1);
        CHECK.due("quad", table.quad(0), -1);
        CHECK.due("win", table.win(), -1);
        CHECK.due("phase", table.phase(), 4);
        CHECK.due("state", table.state(), state);
    }

    /** In round 1 the round wind is 2z; the seat wind of seat 2 is 3z. */
    private static void secondRoundWind() {
        for (int wind = 1; wind <= 3; wind++) {
            RiichiTable table = new RiichiTable(77);
            for (int hand = 0; hand < 4; hand++) {
                Scene.orphansDrawn(table, 1);
                table.next();
            }
            new Scene().hand(0, "147m 258p 39s 4567z").hand(1, "6s 147m 258p 39s 4567z").hand(2, wind + "" + wind + wind + "z 345m 678p 45s 99p")
                    .draws("8s 9m").dealOn(table);
            Scene.letGoDrawn(table, 1);
            CHECK.due("the feeder", table.who(), 1);
            table.discard(k("6s"), false);
            CHECK.due("option with wind " + wind, table.options(2) & 16, wind == 1 ? 0 : 16);
            table.claim(2, wind == 1 ? 0 : 4, 0);
            CHECK.due("yaku with wind " + wind, table.yaku(2), wind == 1 ? Check.bits(30, 41) : wind == 2 ? Check.bits(11) : Check.bits(10));
        }
    }

    /** The seat wind goes with the dealer, who is player 1 here. */
    private static void seatWinds() {
        for (int wind = 2; wind <= 4; wind++) {
            RiichiTable table = new RiichiTable(77);
            Scene.orphansDrawn(table, 1);
            table.next();
            String triplet = wind + "" + wind + wind + "z";
            new Scene().hand(0, "147m 258p 39s 567z").hand(1, "147m 258p 39s 567z").hand(2, "6s 147m 258p 39s 567z")
                    .hand(3, triplet + "345m 678p 45s 99p").draws("8s 9m 2m").dealOn(table);
            Scene.letGoDrawn(table, 2);
            table.discard(k("6s"), false);
            CHECK.due("player 0 with wind " + wind, table.options(0) & 16, wind == 4 ? 16 : 0);
        }
    }

    /** Melds, quads, riichi, what was missed and that somebody called end with the hand. */
    private static void nothingStays() {
        RiichiTable table = new Scene().hand(0, "7777z 123m 456m 99p 3s").hand(1, READY).hand(2, "5s 147m 258p 69s 23z")
                .hand(3, QUIET).draws("4s 6z 1z 1z 2s").replacements("1z").deal();
        CHECK.due("quad", table.quad(k("7z")), 1);
        Scene.letGo(table, k("1z"));
        CHECK.due("riichi", table.discard(k("6z"), true) > 0, true);
        Scene.pass(table);
        table.discard(k("5s"), false);
        CHECK.due("can be won", table.options(1), 16);
        Scene.pass(table);
        CHECK.due("missed", table.furiten(1), true);
        Scene.letGoDrawn(table, 1);
        CHECK.due("dealer again", table.who(), 0);
        CHECK.due("wins", table.win() >= 1, true);
        CHECK.due("quads", table.table(5), 1);
        table.next();
        new Scene().hand(0, QUIET).hand(1, READY).draws("1z 5s").dealOn(table);
        CHECK.due("no quads", table.table(5), 0);
        CHECK.due("left", table.table(4), 69);
        CHECK.due("no melds", table.meld(0, 0), -1);
        CHECK.due("nothing missed", table.furiten(1), false);
        CHECK.due("ready", table.waits(1), Scene.mask("58s"));
        Scene.letGo(table, k("1z"));
        CHECK.due("not in riichi", table.discard(k("2m"), false) > 0, true);
        Scene.pass(table);

        table = new Scene().hand(0, "7z 147m 258p 369s 12z").hand(1, "77z 147m 258p 369s 12z").hand(2, READY)
                .draws("6z 5s").deal();
        table.discard(k("7z"), false);
        table.claim(1, 2, 0);
        Scene.letGo(table, k("1m"));
        CHECK.due("won behind a call", table.win() < 13, true);
        table.next();
        new Scene().hand(0, READY).draws("5s").dealOn(table);
        CHECK.due("nobody has called in this hand", table.win(), 13);
        CHECK.due("first go-round", table.yaku(1), Check.bits(40));
    }

    /** Players 1 and 2 are level when the last hand is drawn out: 1 gets the sticks, or else player 0. */
    private static void sticksAtTheEnd(boolean zeroIsReady) {
        RiichiTable table = Scene.levelBeforeTheLastHand();
        points("before the last hand", table, 62000, 62000, 62000, -66000);
        table("before the last hand", table, 3, 1, 0, 0);
        new Scene().hand(0, "14m 149p 369s 2345z").hand(1, zeroIsReady ? "111s 222s 333s 444s 7z" : "14m 149p 369s 2345z").hand(2, "555m 666m 777m 888m 7z")
                .hand(3, "555p 666p 777p 888p 6z").draws("1z 1z").put(54, "1z 1z").dealOn(table);
        Scene.letGoDrawn(table, 2);
        CHECK.due("riichi of 1", table.discard(k("1z"), true), 1);
        CHECK.due("riichi of 2", table.discard(k("1z"), true), 1);
        table("two sticks", table, 3, 1, 0, 2);
        for (int i = 0; i < 66; i++) Scene.letGo(table, table.drawn());
        CHECK.due("finished", table.phase(), 4);
        if (zeroIsReady) points("the sticks go to 0", table, 65000, 62000, 62000, -69000);
        else points("the sticks go to 1", table, 60500, 64500, 62500, -67500);
        table("the end", table, 3, 1, 1, 0);
        isFinished(table);
    }
}
