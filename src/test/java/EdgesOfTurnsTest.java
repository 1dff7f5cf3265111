/** The boundary cases of turns, riichi and quads, and of promises 4, 5 and 6. */
public final class EdgesOfTurnsTest {
    private static final Check CHECK = new Check();
    private static final String QUIET = "147m 258p 369s 345z";
    /** Ready for 5s and 8s, with yaku 8. */
    private static final String READY = "234m 678m 345p 67s 99p";

    public static void main(String[] args) {
        called();
        drawsOrDrawnOut();
        riichiClosed();
        riichiOnce();
        riichiPoints(900);
        riichiPoints(1000);
        riichiLeft();
        riichiReady();
        riichiEnds();
        stickIsPaid();
        doubleRiichi();
        inRiichi();
        quadNeedsDrawn();
        quadNotInRiichi();
        quadFewerThanFour();
        quadLeft();
        quadForms();
        closedIsNotRobbed();
        addedIsRobbed();
        completed();
        discardAnswers();
        discardIsBad();
        quadAnswers();
        winAnswers();
        winIsBad();
        CHECK.end();
    }

    private static int k(String text) {
        return Scene.kind(text);
    }

    /** Player 2 calls what player 1 discards; all are quiet else. */
    private static void called() {
        CHECK.sentence("has drawn a tile, or has called one (then nothing is DRAWN)");
        RiichiTable table = new Scene().hand(0, QUIET).hand(1, "7z 147m 258p 369s 34z").hand(2, "77z 22m 34p 345m 678s 9s").draws("1z 2z 6z").deal();
        CHECK.due("drawn at the deal", table.drawn(), k("1z"));
        Scene.letGo(table, k("1z"));
        CHECK.due("drawn by the next", table.drawn(), k("2z"));
        table.discard(k("7z"), false);
        table.claim(2, 2, 0);
        CHECK.due("called", table.drawn(), -1);
        CHECK.due("no win", table.win(), -1);
        CHECK.due("no quad", table.quad(k("7z")), -1);
        CHECK.due("a discard", table.discard(k("9s"), false) > 0, true);
    }

    private static void drawsOrDrawnOut() {
        CHECK.sentence("After a discard that nobody takes the next player draws; if LEFT is 0 then, the hand is DRAWN OUT.");
        RiichiTable table = new Scene().put(121, "7z").deal();
        Scene.letGoDrawn(table, 68);
        CHECK.due("left 1", table.table(4), 1);
        Scene.letGoDrawn(table, 1);
        CHECK.due("the last one is drawn", table.drawn(), k("7z"));
        CHECK.due("by the next", table.who(), 1);
        CHECK.due("left 0", table.table(4), 0);
        Scene.letGoDrawn(table, 1);
        CHECK.due("drawn out", table.phase(), 3);
        CHECK.due("nobody's turn", table.who(), -1);

        // What is taken at LEFT 1 is no draw; the taker discards, and then the last tile is drawn.
        table = new Scene().hand(0, "6z 147m 258p 369s 34z").hand(2, "66z 147m 258p 369s 4z").put(121, "7z").deal();
        Scene.letGoDrawn(table, 68);
        table.discard(k("6z"), false);
        table.claim(2, 2, 0);
        Scene.pass(table);
        CHECK.due("taken at left 1", table.who(), 2);
        CHECK.due("left stays 1", table.table(4), 1);
        Scene.letGo(table, k("4z"));
        CHECK.due("drawn behind the taker", table.who(), 3);
        CHECK.due("the last one", table.drawn(), k("7z"));
        CHECK.due("left 0", table.table(4), 0);
    }

    private static void riichiClosed() {
        CHECK.sentence("RIICHI needs: closed,");
        String[] melds = {"c2222z", "t777z", "r123s", "q7777z", "a7777z"};
        for (int i = 0; i < melds.length; i++) {
            RiichiTable table = new HandScene(1, "678m 345p 67s 99p", melds[i], "1m", true).play();
            CHECK.due("who", table.who(), 1);
            CHECK.due("riichi with " + melds[i], table.discard(k("1m"), true) > 0, i == 0);
        }
        RiichiTable table = new HandScene(1, READY, "", "1m", true).play();
        CHECK.due("riichi without melds", table.discard(k("1m"), true) > 0, true);
    }

    private static void riichiOnce() {
        CHECK.sentence("not in riichi, 1000 points or more,");
        RiichiTable table = new Scene().hand(0, READY).hand(1, QUIET).hand(2, QUIET).hand(3, QUIET).draws("1z 2z 2z 2z 1z").deal();
        CHECK.due("riichi", table.discard(k("1z"), true), 1);
        Scene.letGoDrawn(table, 3);
        CHECK.due("not again", table.discard(k("1z"), true), -1);
        CHECK.due("no second stick", table.points(0), 29000);
        CHECK.due("without it", table.discard(k("1z"), false), 1);
    }

    /** Player 3 loses until they have so many points; then they are ready. */
    private static void riichiPoints(int points) {
        CHECK.sentence("1000 points or more");
        RiichiTable table = new RiichiTable(9);
        if (points == 900) {
            // The dealer gets 4800; then there is one honba.
            lose(table, new Scene().hand(0, "2244m 2277p 3355s 6s").hand(3, "6s"), 3, "6s", 0);
            lose(table, new Scene().hand(1, "2233445566778m").hand(3, "8m"), 3, "8m", 1);
        } else {
            lose(table, new Scene().hand(1, "1122m 4466m 8899m 5m").hand(3, "5m"), 3, "5m", 1);
            lose(table, new Scene().hand(1, "234345m 68m 111m 99m").hand(2, "7m"), 2, "7m", 2);
            lose(table, new Scene().hand(2, "34m 678m 345p 567s 99p").hand(1, "2m"), 1, "2m", 0);
        }
        CHECK.due("points", table.points(3), points);
        int seat = (3 - table.table(0) + 4) % 4;
        new Scene().hand(seat, READY).draws("1z 2z 1z").dealOn(table);
        Scene.letGoDrawn(table, seat);
        CHECK.due("who", table.who(), 3);
        int answer = table.discard(k("1z"), true);
        CHECK.due("riichi with " + points, answer > 0, points >= 1000);
        if (answer == 2) Scene.pass(table);
        CHECK.due("points then", table.points(3), points >= 1000 ? 0 : 900);
        CHECK.due("sticks then", table.table(3), points >= 1000 ? 1 : 0);
    }

    private static void lose(RiichiTable table, Scene scene, int seat, String tile, int winner) {
        scene.draws("2222z").indicators("1z", "").dealOn(table);
        Scene.letGoDrawn(table, seat);
        CHECK.due("the loser's turn", table.who(), 3);
        table.discard(k(tile), false);
        CHECK.due("is won", table.claim(winner, 4, 0) > 0, true);
        Scene.pass(table);
        CHECK.due("the loser has lost", table.phase(), 3);
        table.next();
    }

    /** The dealer has the turn at LEFT 5, then player 1 at 4, player 2 at 3. */
    private static void riichiLeft() {
        CHECK.sentence("LEFT 4 or more, something drawn, and READY after the discard.");
        String[] hands = {"147m 258p 369s 1234z", READY, "123m 678p 345s 67p 44z", "147m 258p 369s 5671z"};
        for (int left = 3; left <= 5; left++) {
            Scene scene = new Scene();
            int ready = (left == 5 ? 0 : left == 4 ? 1 : 2);
            for (int p = 0; p < 4; p++) scene.hand(p, hands[(p - ready + 5) % 4]);
            RiichiTable table = scene.spare("5555z 6666z").deal();
            Scene.letGoDrawn(table, 69 - left);
            CHECK.due("left", table.table(4), left);
            CHECK.due("who", table.who(), ready);
            CHECK.due("riichi with left " + left, table.discard(table.drawn(), true) > 0, left >= 4);
        }
    }

    private static void riichiReady() {
        CHECK.sentence("READY after the discard. The player is IN RIICHI from then on;");
        Scene scene = new Scene().hand(0, READY).hand(1, QUIET).hand(2, QUIET).hand(3, QUIET).draws("1z 6z 2z 2z 1z");
        // The waits tell whether the discard leaves a hand that is ready.
        for (int kind = 0; kind < 34; kind++) {
            RiichiTable plain = scene.deal();
            boolean ready = plain.discard(kind, false) > 0 && plain.waits(0) != 0;
            CHECK.due("riichi with " + kind, scene.deal().discard(kind, true) > 0, ready);
        }
        CHECK.due("ready without 1z", scene.deal().discard(k("1z"), true) > 0, true);
        CHECK.due("not ready without 7m", scene.deal().discard(k("7m"), true), -1);
        RiichiTable table = new Scene().hand(0, "1111m 234p 567p 789s").draws("3z").deal();
        CHECK.due("all four are one's own", table.discard(k("3z"), true), -1);
        CHECK.due("one of them goes", table.discard(k("1m"), true) > 0, true);
        table = scene.deal();
        table.discard(k("1z"), true);
        Scene.pass(table);
        Scene.letGoDrawn(table, 3);
        CHECK.due("in riichi", table.discard(k("9p"), false), -1);
    }

    private static void riichiEnds() {
        CHECK.sentence("The player is IN RIICHI from then on;");
        RiichiTable table = new Scene().hand(0, READY).hand(1, "19m 19p 19s 1234567z").hand(2, QUIET).hand(3, QUIET).draws("1z 1z").deal();
        table.discard(k("1z"), true);
        Scene.pass(table);
        CHECK.due("won", table.win(), 13);
        table.next();
        // The next hand: player 0 has the last turn of the first go-round.
        new Scene().hand(0, QUIET).hand(1, QUIET).hand(2, QUIET).hand(3, "77z 147m 258p 369s 1z").draws("1z 1z 2z 2z").dealOn(table);
        Scene.letGoDrawn(table, 3);
        CHECK.due("who", table.who(), 0);
        CHECK.due("not in riichi any more", table.discard(k("1m"), false) > 0, true);
    }

    private static void stickIsPaid() {
        CHECK.sentence("if the discard isn't won by anybody, they pay a stick, when the claims are answered or there are none.");
        RiichiTable table = new Scene().hand(0, READY).hand(1, QUIET).hand(2, QUIET).hand(3, QUIET).draws("1z").deal();
        table.discard(k("1z"), true);
        stick("no claims", table, 29000, 1);
        for (int what = 0; what < 5; what++) {
            // 3s: player 1 may take it for a run and win, player 3 for a triplet or a quad.
            table = new Scene().hand(0, READY).hand(1, "123m 345m 678p 45s 44z").hand(2, "147m 258p 69s 35z")
                    .hand(3, "3s 3s 3s 147m 58p 9s 7z")
                    .draws("3s").indicators("1z", "").deal();
            CHECK.due("claims", table.discard(k("3s"), true), 2);
            stick("before the answers", table, 30000, 0);
            CHECK.due("answer", table.claim(1, what == 1 ? 1 : what == 4 ? 4 : 0, k("3s")), 2);
            stick("before the last answer", table, 30000, 0);
            CHECK.due("last answer", table.claim(3, what == 2 || what == 3 ? what : 0, 0), what == 4 ? 3 : 1);
            stick("answered with " + what, table, 29000, what == 4 ? 0 : 1);
            // Who won gets the 1000 for the hand alone.
            if (what == 4) CHECK.due("the winner got no stick", table.worth(1, 3), 1000);
        }
    }

    private static void stick(String name, RiichiTable table, int points, int sticks) {
        CHECK.due(name + ": points", table.points(0), points);
        CHECK.due(name + ": sticks", table.table(3), sticks);
    }

    private static long riichiYaku(RiichiTable table, int p) {
        CHECK.due("riichi", table.discard(table.drawn(), true) > 0, true);
        Scene.pass(table);
        for (int i = 0; i < 8 && (table.options(p) & 16) == 0; i++) {
            boolean feeds = table.who() != p && table.concealed(table.who(), k("5s")) > 0;
            if (feeds) table.discard(k("5s"), false);
            else Scene.letGoDrawn(table, 1);
        }
        CHECK.due("won", table.claim(p, 4, 0) > 0, true);
        Scene.pass(table);
        return table.yaku(p) & 3;
    }

    private static void doubleRiichi() {
        CHECK.sentence("DOUBLE RIICHI: it is the player's first discard of the hand, and nobody has called or made a quad before.");
        String feeder = "5s 147m 258p 34z 1s 2s";
        RiichiTable table = new Scene().hand(0, READY).hand(1, feeder).hand(2, QUIET).hand(3, QUIET).draws("1z 7z").deal();
        CHECK.due("the dealer's first", riichiYaku(table, 0), 2);
        table = new Scene().hand(0, QUIET).hand(1, QUIET).hand(2, feeder).hand(3, READY).draws("1z 1z 1z 2z 6z 6z 6z").deal();
        Scene.letGoDrawn(table, 3);
        CHECK.due("the last one's first", riichiYaku(table, 3), 2);
        table = new Scene().hand(0, READY).hand(1, feeder).hand(2, QUIET).hand(3, QUIET).draws("1z 1z 1z 2z 6z 7z").deal();
        Scene.letGoDrawn(table, 4);
        CHECK.due("the second discard", riichiYaku(table, 0), 1);

        table = new Scene().hand(0, "7z 147m 258p 369s 346z").hand(1, "77z 5s 147m 258p 69s 34z").hand(2, READY).hand(3, QUIET).draws("6z 1z").deal();
        table.discard(k("7z"), false);
        table.claim(1, 2, 0);
        Scene.letGo(table, k("3z"));
        CHECK.due("behind a call", riichiYaku(table, 2), 1);

        table = new Scene().hand(0, "7777z 147m 258p 369s").hand(1, READY).hand(2, feeder).hand(3, QUIET).draws("2z 1z 6z").replacements("2z").deal();
        table.quad(k("7z"));
        Scene.letGo(table, k("2z"));
        CHECK.due("behind a closed quad of another", riichiYaku(table, 1), 1);

        table = new Scene().hand(0, "2222z 678m 345p 67s 9p").hand(1, feeder).hand(2, QUIET).hand(3, QUIET).draws("9p 6z").replacements("1z").deal();
        table.quad(k("2z"));
        CHECK.due("behind a closed quad of one's own", riichiYaku(table, 0), 1);

        // The riichi tile is taken: that is a call, but not before it.
        table = new Scene().hand(0, READY).hand(1, "77z 5s 147m 258p 3446z").hand(2, QUIET).hand(3, QUIET).draws("7z").deal();
        table.discard(k("7z"), true);
        table.claim(1, 2, 0);
        table.discard(k("5s"), false);
        table.claim(0, 4, 0);
        Scene.pass(table);
        CHECK.due("its own tile is taken", table.yaku(0) & 3, 2);
    }

    /** Player 0 is in riichi and has drawn 3m: they have four of it. */
    private static RiichiTable riichiWithFour() {
        RiichiTable table = new Scene().hand(0, "333m 678m 345p 67s 99p").hand(1, QUIET).hand(2, QUIET).hand(3, "147m 258p 369s 34z")
                .draws("1z 2z 2z 2z 3m").deal();
        CHECK.due("riichi", table.discard(k("1z"), true), 1);
        Scene.letGoDrawn(table, 3);
        return table;
    }

    private static void inRiichi() {
        CHECK.sentence("In riichi only what is drawn may be discarded, and nothing else is done but winning.");
        RiichiTable table = riichiWithFour();
        for (int kind = -1; kind < 35; kind++) {
            if (kind == k("3m")) continue;
            CHECK.due("discard of " + kind, table.discard(kind, false), -1);
            CHECK.due("quad of " + kind, table.quad(kind), -1);
        }
        CHECK.due("riichi", table.discard(k("3m"), true), -1);
        CHECK.due("quad", table.quad(k("3m")), -1);
        CHECK.due("still four", table.concealed(0, k("3m")), 4);
        CHECK.due("what is drawn", table.discard(k("3m"), false) > 0, true);

        // Calls are not done either, but winning is.
        table = new Scene().hand(0, "44p 4p 56p 678m 99s 678s").hand(1, "147m 28p 36s 345z").hand(2, "147m 28p 36s 345z").hand(3, "4p 147m 28p 36s 35z")
                .draws("1z 2z 2z 2z").deal();
        CHECK.due("riichi", table.discard(k("1z"), true), 1);
        Scene.letGoDrawn(table, 2);
        CHECK.due("who", table.who(), 3);
        table.discard(k("4p"), false);
        CHECK.due("neither run, triplet nor quad", table.options(0), 16);
        for (int what = 1; what < 4; what++) CHECK.due("claim of " + what, table.claim(0, what, k("4p")), -1);
        CHECK.due("win", table.claim(0, 4, 0), 3);
        table = new Scene().hand(0, READY).hand(1, QUIET).hand(2, QUIET).hand(3, QUIET).draws("1z 2z 2z 2z 5s").deal();
        table.discard(k("1z"), true);
        Scene.letGoDrawn(table, 3);
        CHECK.due("win by what is drawn", table.win() > 0, true);
    }

    private static void quadNeedsDrawn() {
        CHECK.sentence("QUADS are made when something is drawn,");
        // Player 1 has four 2m and takes 7z; one of 7z stays concealed beside the triplet.
        RiichiTable table = new Scene().hand(0, "7z 147m 258p 369s 34z").hand(1, "777z 2222m 58p 369s 4z").hand(2, QUIET).hand(3, QUIET)
                .draws("1z 1z 1z 6z 6z").replacements("6z 6z").deal();
        table.discard(k("7z"), false);
        table.claim(1, 2, 0);
        CHECK.due("called", table.drawn(), -1);
        CHECK.due("no closed quad", table.quad(k("2m")), -1);
        CHECK.due("no added quad", table.quad(k("7z")), -1);
        Scene.letGo(table, k("4z"));
        Scene.letGoDrawn(table, 3);
        CHECK.due("who", table.who(), 1);
        CHECK.due("closed quad", table.quad(k("2m")), 1);
        CHECK.due("added quad", table.quad(k("7z")), 1);
        CHECK.due("melds", table.meld(1, 0), 4 * k("7z") + 2);
        CHECK.due("melds", table.meld(1, 1), 4 * k("2m") + 3);
    }

    private static void quadNotInRiichi() {
        CHECK.sentence("not in riichi, fewer than four quads are on the table, and LEFT is 1 or more:");
        CHECK.due("in riichi", riichiWithFour().quad(k("3m")), -1);
        RiichiTable table = new Scene().hand(0, "333m 678m 345p 67s 99p").hand(1, QUIET).hand(2, QUIET).hand(3, "147m 258p 369s 34z")
                .draws("1z 2z 2z 2z 3m").deal();
        Scene.letGoDrawn(table, 4);
        CHECK.due("not in riichi", table.quad(k("3m")), 1);
    }

    /** So many quads of player 0 and, for the fourth, player 3; then player 1 tries a closed one, 2 an added one. */
    private static void quadFewerThanFour() {
        CHECK.sentence("fewer than four quads are on the table, and LEFT is 1 or more");
        for (int quads = 2; quads <= 4; quads++) {
            RiichiTable table = new Scene().hand(0, "1111m 3333p 5555s 7z").hand(1, "9999m 159p 269s 234z").hand(2, "777z 2568m 258p 38s 4z")
                    .hand(3, "1111s 258m 147p 36s 3z").draws("2z 8s 6z 6z 2z 2z").replacements("4z 4z 6z 6z").deal();
            table.quad(k("1m"));
            table.quad(k("3p"));
            if (quads > 2) table.quad(k("5s"));
            table.discard(k("7z"), false);
            table.claim(2, 2, 0);
            Scene.letGo(table, k("4z"));
            if (quads == 4) CHECK.due("a fourth", table.quad(k("1s")), 1);
            Scene.letGo(table, table.drawn());
            Scene.letGoDrawn(table, 1);
            CHECK.due("who", table.who(), 1);
            CHECK.due("quads", table.table(5), quads);
            CHECK.due("closed quad behind " + quads, table.quad(k("9m")), quads < 4 ? 1 : -1);
            Scene.letGo(table, table.drawn());
            CHECK.due("who", table.who(), 2);
            int now = table.table(5);
            CHECK.due("added quad behind " + now, table.quad(k("7z")), now < 4 ? 1 : -1);
            CHECK.due("quads then", table.table(5), Math.min(4, now + 1));
        }
    }

    private static void quadLeft() {
        CHECK.sentence("LEFT is 1 or more");
        for (int left = 0; left < 3; left++) {
            int seat = (69 - left) % 4;
            RiichiTable table = fourAndThree(seat).deal();
            Scene.letGoDrawn(table, 69 - left);
            CHECK.due("left", table.table(4), left);
            CHECK.due("who", table.who(), seat);
            CHECK.due("closed quad with left " + left, table.quad(k("1z")), left > 0 ? 1 : -1);
            addedAtLeft(left);
        }
    }

    /** This seat has four 1z and three 5z, the one before it has the fourth. */
    private static Scene fourAndThree(int seat) {
        Scene scene = new Scene().spare("9999m 9999p");
        for (int p = 0; p < 4; p++) {
            scene.hand(p, p == seat ? "555z 1111z 258p 36s 2z" : (p == (seat + 3) % 4 ? "5z" : "6z") + "147m 147p 47s 34z");
        }
        return scene;
    }

    /** A triplet is taken in the first go-round; its taker has one draw less then. */
    private static void addedAtLeft(int left) {
        int seat = (70 - left) % 4;
        RiichiTable table = fourAndThree(seat).deal();
        Scene.letGoDrawn(table, (seat + 3) % 4);
        table.discard(k("5z"), false);
        CHECK.due("triplet", table.claim(seat, 2, 0), 1);
        Scene.letGo(table, k("2z"));
        Scene.letGoDrawn(table, table.table(4) - left);
        CHECK.due("left", table.table(4), left);
        CHECK.due("who", table.who(), seat);
        CHECK.due("added quad with left " + left, table.quad(k("5z")), left > 0 ? 1 : -1);
    }

    private static void quadForms() {
        CHECK.sentence("CLOSED, of four concealed tiles; or ADDED, of an open triplet and a concealed tile, if there are no such four.");
        RiichiTable table = new Scene().hand(0, "1111m 333p 22s 59s 12z").draws("6z").replacements("6z").deal();
        for (int kind = -1; kind < 35; kind++) {
            if (kind != k("1m")) CHECK.due("quad of " + kind, table.quad(kind), -1);
        }
        CHECK.due("four concealed", table.quad(k("1m")), 1);
        CHECK.due("closed", table.meld(0, 0), 4 * k("1m") + 3);
        CHECK.due("not of a closed quad", table.quad(k("1m")), -1);

        // An open triplet alone, a run with its kinds, and a triplet with its fourth tile.
        table = new HandScene(1, "345m 678p 45s 99p", "t777z", "6s", true).play();
        CHECK.due("no fourth tile", table.quad(k("7z")), -1);
        table = new HandScene(1, "777s 345m 678p 9p", "r789s", "9p", true).play();
        CHECK.due("three and one in a run", table.quad(k("7s")), -1);
        table = new HandScene(1, "345m 678p 45s 99p", "t777z", "7z", true).play();
        CHECK.due("added", table.quad(k("7z")), 1);
        CHECK.due("open", table.meld(1, 0), 4 * k("7z") + 2);
        table = new HandScene(1, "345m 678p 45s 99p", "q7777z", "6s", true).play();
        CHECK.due("not of an open quad", table.quad(k("7z")), -1);
        table = new HandScene(1, "5s", "t222m r456p c6666s a3333z", "5s", true).play();
        for (int kind = 0; kind < 34; kind++) CHECK.due("with four melds, quad of " + kind, table.quad(kind), -1);
    }

    private static void closedIsNotRobbed() {
        CHECK.sentence("A closed one is completed at once.");
        // Players 1 to 3 wait for the kind, one of them with orphans.
        RiichiTable table = new Scene().hand(0, "1111z 258p 369s 47m 5m").hand(1, "19m 19p 19s 234567z 7z").hand(2, QUIET).draws("6p").replacements("5m").deal();
        CHECK.due("east is waited for", table.waits(1), Scene.mask("1z"));
        CHECK.due("at once", table.quad(k("1z")), 1);
        CHECK.due("completed", table.table(5), 1);
        CHECK.due("nobody has options", table.options(1), 0);
        CHECK.due("replacement", table.drawn(), k("5m"));
    }

    private static void addedIsRobbed() {
        CHECK.sentence("there are CLAIMS to its tile first, for winning alone; it is completed when nobody wins.");
        RiichiTable table = Phases.at(Phases.ADDED);
        CHECK.due("claims", table.phase(), 2);
        CHECK.due("to its tile", table.drawn(), k("3s"));
        CHECK.due("for winning alone", table.options(2), 16);
        CHECK.due("not completed", table.meld(1, 0), 4 * k("3s") + 1);
        CHECK.due("nobody wins", table.claim(2, 0, 0), 1);
        CHECK.due("completed", table.meld(1, 0), 4 * k("3s") + 2);
        CHECK.due("whose turn", table.who(), 1);
        table = Phases.at(Phases.ADDED);
        CHECK.due("won", table.claim(2, 4, 0), 3);
        CHECK.due("never completed", table.meld(1, 0), 4 * k("3s") + 1);

        // Player 2 could take a run and has no win: no claims at all.
        table = new Scene().hand(0, "3s 159m 159p 15s 1244z").hand(1, "33s 22z 7m 37p 3399m 5m 6m").hand(2, "12s 45s 147m 258p 3z 7z")
                .hand(3, "258m 258p 8s 2z 6677z").draws("5z 4z 5z 5z 3s 6z").replacements("6z").deal();
        table.discard(k("3s"), false);
        table.claim(1, 2, 0);
        Scene.pass(table);
        Scene.letGo(table, k("5m"));
        Scene.letGoDrawn(table, 3);
        CHECK.due("no runs", table.quad(k("3s")), 1);
        CHECK.due("completed", table.meld(1, 0), 4 * k("3s") + 2);
    }

    private static void completed() {
        CHECK.sentence("A quad that is completed turns up an indicator, and the player draws a replacement.");
        // 8p tells 9p: player 0 has two of it. The second indicator is seen only behind a quad.
        for (int quads = 0; quads < 2; quads++) {
            RiichiTable table = new Scene().hand(0, "2222z 678m 345p 67s 9p").hand(1, QUIET).hand(2, QUIET).hand(3, QUIET).draws("9p 6z")
                    .indicators("1s 8p", "").replacements("5s").deal();
            if (quads == 1) {
                CHECK.due("quad", table.quad(k("2z")), 1);
                CHECK.due("replacement", table.drawn(), k("5s"));
                CHECK.due("it is concealed", table.concealed(0, k("5s")), 1);
                CHECK.due("won", table.win(), 4);
                CHECK.due("yaku", table.yaku(0), Check.bits(3, 4));
            } else {
                CHECK.due("not complete", table.win(), -1);
            }
        }
    }

    private static void discardAnswers() {
        CHECK.sentence("the player whose turn it is discards a tile of a kind, with riichi if it says so. Answers the phase then;");
        RiichiTable table = new Scene().hand(0, QUIET).hand(1, QUIET).hand(2, QUIET).hand(3, QUIET).draws("1z").deal();
        CHECK.due("a turn", table.discard(k("1z"), false), 1);
        CHECK.due("claims", Phases.at(Phases.TURN).discard(k("5p"), false), 2);
        table = new Scene().hand(0, "147m 258p 369s 1234z").hand(1, "147m 258p 369s 1234z").hand(2, "147m 258p 369s 5671z")
                .hand(3, "147m 258p 369s 5671z").deal();
        Scene.letGoDrawn(table, 69);
        CHECK.due("over", table.discard(table.drawn(), false), 3);
        table = Scene.before(7);
        new Scene().hand(0, "1122m 3344m 567z 69s").hand(1, "5566m 7788m 567z 58s").hand(2, "1122p 3344p 567z 49s").hand(3, "5566p 7788p 567z 39s").dealOn(table);
        Scene.letGoDrawn(table, 69);
        CHECK.due("finished", table.discard(table.drawn(), false), 4);
    }

    private static void discardIsBad() {
        CHECK.sentence("BAD when the phase is another one, they have no such concealed tile, or it isn't allowed.");
        for (int which = 0; which < Phases.MANY; which++) {
            RiichiTable table = Phases.at(which);
            if (Phases.phaseOf(which) == 1) continue;
            for (int kind = 0; kind < 34; kind++) {
                CHECK.due("in phase " + which, table.discard(kind, false), -1);
                CHECK.due("riichi in phase " + which, table.discard(kind, true), -1);
            }
        }
        for (int which : new int[] {Phases.TURN, Phases.CALLED}) {
            for (int kind = -1; kind < 35; kind++) {
                RiichiTable table = Phases.at(which);
                boolean there = table.concealed(table.who(), kind) > 0;
                CHECK.due("discard of " + kind, table.discard(kind, false) > 0, there);
            }
            RiichiTable table = Phases.at(which);
            CHECK.due("least kind", table.discard(Integer.MIN_VALUE, false), -1);
            CHECK.due("greatest kind", table.discard(Integer.MAX_VALUE, false), -1);
        }
        // What lies in a meld is not concealed.
        CHECK.due("of a meld", Phases.at(Phases.CALLED).discard(k("5p"), false), -1);
    }

    private static void quadAnswers() {
        CHECK.sentence("makes a quad of a kind. Answers the phase then; BAD when the phase is another one or it isn't allowed.");
        for (int which = 0; which < Phases.MANY; which++) {
            for (int kind = -1; kind < 35; kind++) {
                boolean may = which == Phases.TURN && kind == k("2s");
                CHECK.due("quad of " + kind + " in phase " + which, Phases.at(which).quad(kind), may ? 1 : -1);
            }
            CHECK.due("least kind", Phases.at(which).quad(Integer.MIN_VALUE), -1);
            CHECK.due("greatest kind", Phases.at(which).quad(Integer.MAX_VALUE), -1);
        }
        CHECK.due("a quad that can be robbed", Phases.at(Phases.ADDED).phase(), 2);
    }

    private static void winAnswers() {
        CHECK.sentence("wins by what is drawn. Answers the han;");
        RiichiTable table = new HandScene(1, "123m 456p 555s 78p 99m", "", "9p", true).play();
        CHECK.due("one han", table.win(), 1);
        table = new HandScene(1, "222m 444p 777s 33z 55s", "", "3z", true).play();
        CHECK.due("limit", table.win(), 13);
        // Riichi 1, before the next discard 1, draw 1, inner kinds 1, one suit 6, and six dora.
        table = new Scene().hand(0, "222m 33345m 67m 888m").hand(1, "258p 369s 345z").hand(2, "258p 369s 345z").hand(3, "258p 369s 345z")
                .draws("1z 2z 2z 2z 2z 6z 6z 6z 5m").indicators("1m", "7m").deal();
        Scene.letGoDrawn(table, 4);
        table.discard(k("2z"), true);
        Scene.pass(table);
        Scene.letGoDrawn(table, 3);
        CHECK.due("beyond the limit", table.win(), 16);
    }

    private static void winIsBad() {
        CHECK.sentence("BAD when the phase is another one, nothing is drawn, the hand isn't complete or its best reading has no yaku.");
        for (int which = 0; which < Phases.MANY; which++) CHECK.due("win in phase " + which, Phases.at(which).win(), -1);
        RiichiTable table = new HandScene(1, READY, "", "4s", true).play();
        CHECK.due("not complete", table.win(), -1);
        table = new HandScene(1, "678m 345p 67s 99p", "r234m", "5s", true).play();
        CHECK.due("no yaku", table.win(), -1);
        CHECK.due("a turn all the same", table.discard(k("5s"), false) > 0, true);
        // Complete with the triplet that is called: nothing is drawn.
        table = new Scene().hand(0, "7z 147m 258p 369s 34z").hand(1, "77z 234m 678m 345p 99p").draws("1z").deal();
        table.discard(k("7z"), false);
        CHECK.due("called", table.claim(1, 2, 0) > 0, true);
        Scene.pass(table);
        CHECK.due("nothing is drawn", table.win(), -1);
    }
}
