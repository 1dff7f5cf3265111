/** The boundary cases of payments, of hands that are drawn out and of the end, and of promises 9, 18 and 19. */
public final class EdgesOfPayTest {
    private static final Check CHECK = new Check();
    private static final String QUIET = "147m 258p 369s 345z";
    /** Ready for 5s and 8s, with yaku 8. */
    private static final String READY = "234m 678m 345p 67s 99p";

    public static void main(String[] args) {
        byTile();
        byDraw();
        honba();
        severalWinners();
        sticks();
        atOnce();
        drawnOut();
        dealerStays();
        nextDealer();
        honbaAtTheEnd();
        finished();
        sticksAtTheEnd();
        nextAnswers();
        pointsAnswers();
        tableAnswers();
        CHECK.end();
    }

    private static int k(String text) {
        return Scene.kind(text);
    }

    /** What each has won or lost against what they had. */
    private static void changes(String name, RiichiTable table, int[] before, int... want) {
        for (int p = 0; p < 4; p++) CHECK.due(name + ": player " + p, table.points(p) - before[p], want[p]);
    }

    private static int[] pointsOf(RiichiTable table) {
        int[] points = new int[4];
        for (int p = 0; p < 4; p++) points[p] = table.points(p);
        return points;
    }

    private static final int[] START = {30000, 30000, 30000, 30000};

    private static RiichiTable won(int seat, String hand, String melds, String last, boolean byDraw) {
        HandScene scene = new HandScene(seat, hand, melds, last, byDraw);
        RiichiTable table = scene.play();
        CHECK.due(hand + " is won", scene.win(table), true);
        return table;
    }

    private static void byTile() {
        CHECK.sentence("each made a multiple of 100 upwards: by another's tile that player pays 6 * base to the dealer, 4 * base to another one;");
        // Base 240: 960 and 1440; base 400: 1600 and 2400, which are multiples already.
        changes("base 240", won(1, READY, "", "5s", false), START, -1000, 1000, 0, 0);
        changes("base 240", won(3, READY, "", "5s", false), START, 0, 0, -1000, 1000);
        changes("base 240 of the dealer", won(0, READY, "", "5s", false), START, 1500, 0, 0, -1500);
        changes("base 400", won(2, "1144m 2277p 3355s 6z", "", "6z", false), START, 0, -1600, 1600, 0);
        changes("base 400 of the dealer", won(0, "1144m 2277p 3355s 6z", "", "6z", false), START, 2400, 0, 0, -2400);
        changes("base 8000", won(1, "19m 19p 19s 1234567z", "", "1m", false), START, -32000, 32000, 0, 0);
        changes("base 8000 of the dealer", won(0, "19m 19p 19s 1234567z", "", "1m", false), START, 48000, 0, 0, -48000);
    }

    private static void byDraw() {
        CHECK.sentence("by what is drawn each pays 2 * base to the dealer; to another one the dealer pays 2 * base and the others base each.");
        changes("base 320", won(1, READY, "", "5s", true), START, -700, 1500, -400, -400);
        changes("base 320 of the dealer", won(0, READY, "", "5s", true), START, 2100, -700, -700, -700);
        changes("base 240", won(2, "123m 456p 555s 78p 99m", "", "9p", true), START, -500, -300, 1100, -300);
        changes("base 800", won(3, "1144m 2277p 3355s 6z", "", "6z", true), START, -1600, -800, -800, 3200);
        changes("base 800 of the dealer", won(0, "1144m 2277p 3355s 6z", "", "6z", true), START, 4800, -1600, -1600, -1600);
        // The dealer is another player.
        RiichiTable table = Scene.before(2);
        int[] before = pointsOf(table);
        Scene.orphansDrawn(table, 3);
        changes("dealer 2", table, before, -8000, 32000, -16000, -8000);
    }

    /** The dealer has won so many hands before. */
    private static RiichiTable withHonba(int honba) {
        RiichiTable table = new RiichiTable(9);
        for (int i = 0; i < honba; i++) {
            Scene.orphansDrawn(table, 0);
            table.next();
        }
        CHECK.due("honba", table.table(2), honba);
        return table;
    }

    private static void honba() {
        CHECK.sentence("For each honba the payer by a tile pays 300 more, or each one 100 more.");
        for (int honba = 0; honba < 4; honba++) {
            RiichiTable table = withHonba(honba);
            int[] before = pointsOf(table);
            new Scene().hand(0, QUIET).hand(1, READY).hand(2, "5s 147m 258p 34z").hand(3, QUIET).draws("1z 1z 2z").indicators("1z", "").dealOn(table);
            Scene.letGoDrawn(table, 2);
            table.discard(k("5s"), false);
            table.claim(1, 4, 0);
            Scene.pass(table);
            changes("by a tile, honba " + honba, table, before, 0, 1000 + 300 * honba, -1000 - 300 * honba, 0);
            CHECK.due("got", table.worth(1, 3), 1000 + 300 * honba);

            table = withHonba(honba);
            before = pointsOf(table);
            Scene.orphansDrawn(table, 2);
            changes("by a draw, honba " + honba, table, before, -16000 - 100 * honba, -8000 - 100 * honba, 32000 + 300 * honba, -8000 - 100 * honba);
            CHECK.due("got", table.worth(2, 3), 32000 + 300 * honba);
        }
    }

    /** All but the payer wait for 5p; one honba and one stick lie there. */
    private static void severalWinners() {
        CHECK.sentence("With several winners each is paid, but the honba go to the one that comes first behind the payer."
                + " The sticks on the table go to the winner, or to that first one.");
        String[] hands = {"345m 678m 34p 678s 88s", "234m 678m 46p 345s 22s", "567m 234s 67p 456s 77s"};
        for (int payer = 0; payer < 4; payer++) {
            for (int winners = 1; winners < 8; winners++) {
                RiichiTable table = withHonba(1);
                int[] before = pointsOf(table);
                Scene scene = new Scene().draws("1z 1z 1z 1z 2z 2z 2z 2z").indicators("4z", "4z");
                for (int i = 1; i < 4; i++) scene.hand((payer + i) % 4, hands[i - 1]);
                scene.hand(payer, "5p 19m 19s 37z").dealOn(table);
                // The one that comes first behind the payer may be in riichi, with a stick: here the third one is.
                int third = (payer + 3) % 4;
                Scene.letGoDrawn(table, third);
                CHECK.due("riichi", table.discard(table.drawn(), true) > 0, true);
                Scene.pass(table);
                for (int i = 0; i < 8 && table.who() != payer; i++) Scene.letGoDrawn(table, 1);
                table.discard(k("5p"), false);
                int first = 0;
                int[] want = {0, 0, 0, 0};
                want[third] = -1000;
                for (int i = 3; i > 0; i--) if ((winners >> i - 1 & 1) != 0) first = i;
                for (int i = 1; i < 4; i++) table.claim((payer + i) % 4, (winners >> i - 1 & 1) != 0 ? 4 : 0, 0);
                for (int i = 1; i < 4; i++) {
                    if ((winners >> i - 1 & 1) == 0) continue;
                    int p = (payer + i) % 4;
                    int base = table.worth(p, 2);
                    int due = up((p == 0 ? 6 : 4) * base) + (i == first ? 300 : 0);
                    want[p] += due + (i == first ? 1000 : 0);
                    want[payer] -= due;
                    CHECK.due("got by " + p, table.worth(p, 3), due + (i == first ? 1000 : 0));
                }
                changes("payer " + payer + ", winners " + winners, table, before, want);
                CHECK.due("no sticks are left", table.table(3), 0);
            }
        }
    }

    private static int up(int amount) {
        return (amount + 99) / 100 * 100;
    }

    /** Two sticks of players 1 and 2 go to player 3, who wins by a draw. */
    private static void sticks() {
        CHECK.sentence("HONBA counters and STICKS (of 1000 points each) lie on the table.");
        RiichiTable table = new Scene().hand(0, "258m 147p 34z").hand(1, READY).hand(2, "234m 678m 345p 67s 33z").hand(3, "19m 19p 19s 1234567z")
                .draws("1z 1z 1z 9s").indicators("2z", "").deal();
        Scene.letGoDrawn(table, 1);
        for (int p = 1; p < 3; p++) {
            CHECK.due("riichi", table.discard(k("1z"), true) > 0, true);
            Scene.pass(table);
        }
        CHECK.due("two sticks", table.table(3), 2);
        CHECK.due("won", table.win(), 13);
        changes("two sticks", table, START, -16000, -9000, -9000, 34000);
        CHECK.due("got", table.worth(3, 3), 34000);
        CHECK.due("no sticks are left", table.table(3), 0);
        // A hand that is drawn out leaves them there.
        table = new Scene().hand(0, "111m 222m 333m 444m 1z").hand(1, "5566m 7788m 567z 58s").hand(2, "1122p 3344p 567z 49s").hand(3, "5566p 7788p 567z 39s")
                .draws("2z").deal();
        table.discard(k("2z"), true);
        Scene.pass(table);
        Scene.letGoDrawn(table, 69);
        CHECK.due("drawn out", table.phase(), 3);
        CHECK.due("the stick stays", table.table(3), 1);
        table.next();
        CHECK.due("for the next hand", table.table(3), 1);
        Scene.orphansDrawn(table, 2);
        CHECK.due("and goes to its winner", table.worth(2, 3), 32000 + 300 + 1000);
        CHECK.due("no sticks are left", table.table(3), 0);
    }

    private static void atOnce() {
        CHECK.sentence("All this, and the end of the hand, is done at once.");
        RiichiTable table = Phases.at(Phases.CLAIMS);
        for (int p = 1; p < 3; p++) table.claim(p, 0, 0);
        CHECK.due("won", table.claim(3, 4, 0), 3);
        CHECK.due("paid", table.points(3) > 30000, true);
        CHECK.due("the next dealer", table.table(0), 1);
        table = new Scene().hand(0, READY).draws("5s").deal();
        table.win();
        CHECK.due("phase", table.phase(), 3);
        CHECK.due("paid", table.points(0), 78000);
        CHECK.due("honba", table.table(2), 1);
    }

    /** Every choice of players who are ready. */
    private static void drawnOut() {
        CHECK.sentence("those who are READY get 3000 points from those who are not, in equal parts on both sides (none if all or nobody are).");
        String[] hands = {"111m 222m 333m 444m 1z", "555m 666m 777m 888m 2z", "111p 222p 333p 444p 3z", "555p 666p 777p 888p 4z"};
        String[] others = {"1122m 3344m 567z 69s", "5566m 7788m 567z 58s", "1122p 3344p 567z 49s", "5566p 7788p 567z 39s"};
        int[] gets = {0, 3000, 1500, 1000, 0};
        int[] pays = {0, 1000, 1500, 3000, 0};
        for (int ready = 0; ready < 16; ready++) {
            Scene scene = new Scene();
            for (int p = 0; p < 4; p++) scene.hand(p, (ready >> p & 1) != 0 ? hands[p] : others[p]);
            RiichiTable table = scene.deal();
            Scene.letGoDrawn(table, 70);
            CHECK.due("drawn out", table.phase(), 3);
            int many = Integer.bitCount(ready);
            int[] want = new int[4];
            for (int p = 0; p < 4; p++) want[p] = (ready >> p & 1) != 0 ? gets[many] : -pays[many];
            changes("ready " + ready, table, START, want);
        }
    }

    private static void dealerStays() {
        CHECK.sentence("the dealer stays if they won, or were ready when it was drawn out;");
        RiichiTable table = new RiichiTable(9);
        Scene.orphansDrawn(table, 0);
        CHECK.due("won by a draw", table.table(0), 0);
        table = won(0, READY, "", "5s", false);
        CHECK.due("won by a tile", table.table(0), 0);
        // The dealer wins with another one by the same tile.
        table = new Scene().hand(0, "345m 678m 34p 678s 88s").hand(1, "234m 678m 46p 345s 22s").hand(2, QUIET).hand(3, "5p 19m 19s 34z")
                .draws("1z 1z 1z 1z").deal();
        Scene.letGoDrawn(table, 3);
        table.discard(k("5p"), false);
        table.claim(0, 4, 0);
        table.claim(1, 4, 0);
        Scene.pass(table);
        CHECK.due("both won", table.yaku(0) != 0 && table.yaku(1) != 0, true);
        CHECK.due("won with another one", table.table(0), 0);
        for (int dealer = 0; dealer < 4; dealer++) {
            for (int ready = 0; ready < 2; ready++) {
                table = Scene.before(dealer);
                new Scene().hand(0, ready == 1 ? "111m 222m 333m 444m 1z" : "1122m 3344m 567z 69s")
                        .hand(1, ready == 1 ? "5566m 7788m 567z 58s" : "555m 666m 777m 888m 2z")
                        .hand(2, "1122p 3344p 567z 49s").hand(3, "5566p 7788p 567z 39s").dealOn(table);
                Scene.letGoDrawn(table, 70);
                CHECK.due("dealer " + dealer + ", drawn out, ready " + ready, table.table(0), (dealer + 1 - ready) % 4);
            }
        }
    }

    private static void nextDealer() {
        CHECK.sentence("else the next player is dealer, and behind player 3 the round is 1 more.");
        for (int hand = 0; hand < 8; hand++) {
            RiichiTable table = Scene.before(hand);
            CHECK.due("dealer of hand " + hand, table.table(0), hand % 4);
            CHECK.due("round of hand " + hand, table.table(1), hand / 4);
            Scene.orphansDrawn(table, 0);
            CHECK.due("dealer stays", table.table(0), hand % 4);
            CHECK.due("round stays", table.table(1), hand / 4);
        }
        // At once, before the next wall.
        RiichiTable table = Scene.before(3);
        Scene.orphansDrawn(table, 1);
        CHECK.due("dealer", table.table(0), 0);
        CHECK.due("round", table.table(1), 1);
        CHECK.due("phase", table.phase(), 3);
    }

    /** The last hand: won by another one, or drawn out; the dealer is not ready. */
    private static void honbaAtTheEnd() {
        CHECK.sentence("HONBA (also when the game is finished by it): 1 more if the dealer stays or the hand was drawn out, else 0.");
        RiichiTable table = withHonba(2);
        Scene.orphansDrawn(table, 0);
        CHECK.due("the dealer stays", table.table(2), 3);
        table.next();
        Scene.orphansDrawn(table, 3);
        CHECK.due("another one won", table.table(2), 0);
        for (int ready = 0; ready < 2; ready++) {
            table = new Scene().hand(0, ready == 1 ? "111m 222m 333m 444m 1z" : "1122m 3344m 567z 69s").hand(1, "555m 666m 777m 888m 2z")
                    .hand(2, "1122p 3344p 567z 49s").hand(3, "5566p 7788p 567z 39s").deal();
            Scene.letGoDrawn(table, 70);
            CHECK.due("drawn out, ready " + ready, table.table(2), 1);
        }
        for (int before = 0; before < 2; before++) {
            table = lastHand(before);
            CHECK.due("honba before", table.table(2), before);
            Scene.orphansDrawn(table, 1);
            CHECK.due("finished", table.phase(), 4);
            CHECK.due("finished by a win", table.table(2), 0);
            table = lastHand(before);
            new Scene().hand(0, "1122m 3344m 567z 69s").hand(1, "555m 666m 777m 888m 2z").hand(2, "1122p 3344p 567z 49s")
                    .hand(3, "5566p 7788p 567z 39s").dealOn(table);
            Scene.letGoDrawn(table, 70);
            CHECK.due("finished", table.phase(), 4);
            CHECK.due("finished by a hand that is drawn out", table.table(2), before + 1);
        }
    }

    /** The last dealer has won so many times. */
    private static RiichiTable lastHand(int honba) {
        RiichiTable table = Scene.before(7);
        for (int i = 0; i < honba; i++) {
            Scene.orphansDrawn(table, 0);
            table.next();
        }
        return table;
    }

    private static void finished() {
        CHECK.sentence("When the round would be 2, the game is FINISHED at once: dealer and round stay what they were,");
        RiichiTable table = Scene.before(7);
        Scene.orphansDrawn(table, 1);
        CHECK.due("phase", table.phase(), 4);
        CHECK.due("dealer", table.table(0), 3);
        CHECK.due("round", table.table(1), 1);
        CHECK.due("no next", table.next(), false);
        CHECK.due("no deal", table.deal(), false);
        // The last dealer stays: one hand more.
        table = Scene.before(7);
        Scene.orphansDrawn(table, 0);
        CHECK.due("phase", table.phase(), 3);
        CHECK.due("next", table.next(), true);
        // The hand before the last one.
        table = Scene.before(6);
        Scene.orphansDrawn(table, 1);
        CHECK.due("phase", table.phase(), 3);
        CHECK.due("dealer", table.table(0), 3);
    }

    private static void sticksAtTheEnd() {
        CHECK.sentence("and the sticks that lie there go to the player with most points, of several to the one with the least number.");
        // Player 3 deals and has most points; players 1 and 2 are in riichi, and ready as they are.
        RiichiTable table = Scene.before(7);
        changes("before the last hand", table, new int[4], -2000, 38000, 38000, 46000);
        new Scene().hand(0, "1122m 3344m 567z 69s").hand(1, "5566p 7788p 567z 39s").hand(2, "555m 666m 777m 888m 2z").hand(3, "111s 222s 333s 444s 3z")
                .draws("1111z").dealOn(table);
        Scene.letGoDrawn(table, 2);
        for (int i = 0; i < 2; i++) CHECK.due("riichi", table.discard(k("1z"), true), 1);
        CHECK.due("two sticks", table.table(3), 2);
        Scene.letGoDrawn(table, 66);
        CHECK.due("finished", table.phase(), 4);
        CHECK.due("no sticks", table.table(3), 0);
        changes("to player 3", table, new int[4], -3500, 38500, 38500, 46500);
        for (int level = 0; level < 2; level++) levelAtTheEnd(level == 1);
    }

    /** Players 1 and 2 have most points at the end and are level, or player 0 has most. */
    private static void levelAtTheEnd(boolean zeroIsReady) {
        RiichiTable table = Scene.levelBeforeTheLastHand();
        changes("before the last hand", table, new int[4], 62000, 62000, 62000, -66000);
        new Scene().hand(0, "14m 149p 369s 2345z").hand(1, zeroIsReady ? "111s 222s 333s 444s 7z" : "14m 149p 369s 2345z")
                .hand(2, "555m 666m 777m 888m 7z").hand(3, "555p 666p 777p 888p 6z").draws("1z 1z 1z 1z").dealOn(table);
        Scene.letGoDrawn(table, 2);
        for (int i = 0; i < 2; i++) CHECK.due("riichi", table.discard(k("1z"), true), 1);
        Scene.letGoDrawn(table, 66);
        CHECK.due("finished", table.phase(), 4);
        if (zeroIsReady) changes("to player 0", table, new int[4], 65000, 62000, 62000, -69000);
        else changes("to player 1", table, new int[4], 60500, 64500, 62500, -67500);
    }

    private static void nextAnswers() {
        CHECK.sentence("a new wall is shuffled, for the next hand: phase WALL. False in another phase.");
        for (int which = 0; which < Phases.MANY; which++) {
            RiichiTable table = Phases.at(which);
            int state = table.state();
            CHECK.due("next in phase " + which, table.next(), which == Phases.OVER);
            CHECK.due("phase then", table.phase(), which == Phases.OVER ? 0 : Phases.phaseOf(which));
            CHECK.due("a new wall", table.state() != state, which == Phases.OVER);
        }
        // The wall begins with the tiles in order again, and with the state as it is.
        RiichiTable table = new RiichiTable(31);
        PlainTable plain = new PlainTable(31);
        Scene.orphansDrawn(table, 1);
        table.next();
        plain.phase = 3;
        plain.next();
        table.deal();
        for (int place = 52; place < 122; place++) {
            CHECK.due("place " + place, table.drawn(), plain.wall[place] / 4);
            Scene.letGoDrawn(table, 1);
        }
    }

    private static void pointsAnswers() {
        CHECK.sentence("Player p's points; 0 when p isn't there.");
        for (int which = 0; which < Phases.MANY; which++) {
            RiichiTable table = Phases.at(which);
            for (int p : new int[] {Integer.MIN_VALUE, -1, 4, Integer.MAX_VALUE}) CHECK.due("points of " + p, table.points(p), 0);
            int sum = 1000 * table.table(3);
            for (int p = 0; p < 4; p++) sum += table.points(p);
            CHECK.due("all points in phase " + which, sum, 120000);
        }
        // They may go below 0.
        RiichiTable table = won(1, "19m 19p 19s 1234567z", "", "1m", false);
        CHECK.due("below 0", table.points(0), -2000);
    }

    private static void tableAnswers() {
        CHECK.sentence("3 sticks on the table (0 when the game is over: they went to a player), 4 LEFT, 5 quads on the table"
                + " (both 0 in the phases 0 and 4); BAD for others.");
        int[][] want = {{0, 0}, {69, 0}, {69, 0}, {69, 0}, {0, 0}, {69, 0}, {65, 0}};
        for (int which = 0; which < Phases.MANY; which++) {
            RiichiTable table = Phases.at(which);
            CHECK.due("left in phase " + which, table.table(4), want[which][0]);
            CHECK.due("quads in phase " + which, table.table(5), want[which][1]);
            for (int what : new int[] {Integer.MIN_VALUE, -1, 6, Integer.MAX_VALUE}) CHECK.due("table " + what, table.table(what), -1);
        }
        // A quad of the last hand: it is seen till the game is over.
        RiichiTable last = Scene.before(7);
        new Scene().hand(0, "7777z 147m 258p 369s").hand(1, "19m 19p 19s 1234566z").draws("5m 7s").replacements("3m").dealOn(last);
        CHECK.due("quad", last.quad(k("7z")), 1);
        CHECK.due("quads", last.table(5), 1);
        CHECK.due("left", last.table(4), 68);
        Scene.letGoDrawn(last, 69);
        CHECK.due("the game is over", last.phase(), 4);
        CHECK.due("quads then", last.table(5), 0);
        CHECK.due("left then", last.table(4), 0);
        RiichiTable table = new Scene().hand(0, "7777z 234m 678m 45p 1z").hand(1, "6p 147m 258p 369s 34z 9m").hand(2, QUIET).hand(3, QUIET)
                .draws("1z 2z").replacements("6z").deal();
        table.quad(k("7z"));
        Scene.letGo(table, k("6z"));
        table.discard(k("6p"), false);
        table.claim(0, 4, 0);
        Scene.pass(table);
        CHECK.due("over", table.phase(), 3);
        CHECK.due("quads when it is over", table.table(5), 1);
        CHECK.due("left when it is over", table.table(4), 67);
        table.next();
        CHECK.due("quads before the deal", table.table(5), 0);
        CHECK.due("left before the deal", table.table(4), 0);
        table.deal();
        CHECK.due("quads of the next hand", table.table(5), 0);
        CHECK.due("left of the next hand", table.table(4), 69);
    }
}
