/** Promises 4, 5, 6, 10 to 15: turns, riichi and quads. */
public final class TurnTest {
    private static final Check CHECK = new Check();
    /** Neither two of a kind nor neighbours in it. */
    private static final String QUIET = "147m 258p 369s 3456z";
    /** Ready for 5s and 8s. */
    private static final String READY = "234m 678m 345p 67s 99p";

    public static void main(String[] args) {
        discards();
        wrongDiscards();
        riichi();
        riichiNeedsReady();
        riichiNeedsClosed();
        riichiNeedsLeft();
        riichiNeedsPoints("2m", "34m 678m 345p 567s 99p", 1000);
        riichiNeedsPoints("5z", "55z 234m 678m 345p 99p", 700);
        closedQuads();
        quadsOnTheTable();
        quadsNeedLeft();
        addedQuads();
        robbedQuads();
        addedLater();
        winning();
        CHECK.end();
    }

    private static int k(String text) {
        return Scene.kind(text);
    }

    private static void discards() {
        RiichiTable table = new Scene().hand(0, "11m 259m 147p 369s 12z").hand(1, QUIET)
                .draws("3z 4z 5z 6z 7z 7z").deal();
        CHECK.due("from the hand", table.discard(k("1m"), false), 1);
        CHECK.due("one is left", table.concealed(0, k("1m")), 1);
        CHECK.due("the drawn one stays", table.concealed(0, k("3z")), 1);
        CHECK.due("next player", table.who(), 1);
        CHECK.due("they have drawn", table.drawn(), k("4z"));
        CHECK.due("left", table.table(4), 68);
        CHECK.due("what is drawn", table.discard(k("4z"), false), 1);
        Scene.letGoDrawn(table, 2);
        CHECK.due("dealer again", table.who(), 0);
        CHECK.due("the other one", table.discard(k("1m"), false) > 0, true);
        Scene.pass(table);
        CHECK.due("river 0", table.river(0, 0), k("1m"));
        CHECK.due("river 1", table.river(0, 1), k("1m"));
        CHECK.due("river 2", table.river(0, 2), -1);
        CHECK.due("river -1", table.river(0, -1), -1);
        CHECK.due("river of player 1", table.river(1, 0), k("4z"));
        CHECK.due("river of player 4", table.river(4, 0), -1);
        CHECK.due("river of player -1", table.river(-1, 0), -1);
        CHECK.due("none is left", table.concealed(0, k("1m")), 0);
    }

    private static void wrongDiscards() {
        RiichiTable table = new Scene().hand(0, "11m 259m 147p 369s 12z").draws("3z").deal();
        for (int kind : new int[] {-1, 34, Integer.MIN_VALUE, Integer.MAX_VALUE, k("3m"), k("7z")}) {
            CHECK.due("discard " + kind, table.discard(kind, false), -1);
            CHECK.due("riichi " + kind, table.discard(kind, true), -1);
            CHECK.due("quad " + kind, table.quad(kind), -1);
        }
        CHECK.due("not ready", table.discard(k("1m"), true), -1);
        CHECK.due("nothing came of it", table.concealed(0, k("1m")), 2);
        CHECK.due("no river", table.river(0, 0), -1);
        CHECK.due("no quad of two", table.quad(k("1m")), -1);
        CHECK.due("no win", table.win(), -1);
        CHECK.due("still the turn", table.phase(), 1);
        CHECK.due("no claims", table.claim(1, 0, 0), -1);
        CHECK.due("still 30000", table.points(0), 30000);
    }

    private static void riichi() {
        RiichiTable table = new Scene().hand(0, READY).draws("1z 2z 3z 4z 9p 9p 1z").deal();
        CHECK.due("riichi", table.discard(k("1z"), true), 1);
        CHECK.due("pays", table.points(0), 29000);
        CHECK.due("stick", table.table(3), 1);
        CHECK.due("waits", table.waits(0), Scene.mask("58s"));
        Scene.letGoDrawn(table, 3);
        CHECK.due("drawn", table.drawn(), k("9p"));
        CHECK.due("only what is drawn", table.discard(k("2m"), false), -1);
        CHECK.due("not again", table.discard(k("9p"), true), -1);
        CHECK.due("what is drawn", table.discard(k("9p"), false) > 0, true);
        Scene.pass(table);
        CHECK.due("paid once", table.points(0), 29000);
        CHECK.due("one stick", table.table(3), 1);

        table = new Scene().hand(0, "333m 678m 345p 67s 99p").draws("1z 2z 4z 4z 3m").deal();
        table.discard(k("1z"), true);
        Scene.letGoDrawn(table, 3);
        CHECK.due("four of them", table.concealed(0, k("3m")), 4);
        CHECK.due("no quad in riichi", table.quad(k("3m")), -1);

        table = new Scene().hand(0, READY).hand(1, "1z 1z").draws("1z").deal();
        CHECK.due("riichi that may be taken", table.discard(k("1z"), true), 2);
        CHECK.due("not paid yet", table.points(0), 30000);
        CHECK.due("no stick yet", table.table(3), 0);
        table.claim(1, 2, 0);
        CHECK.due("paid, though taken", table.points(0), 29000);
        CHECK.due("stick, though taken", table.table(3), 1);

        table = new Scene().hand(0, READY).hand(1, "111p 345m 678p 45s 55z").draws("3s").deal();
        CHECK.due("riichi that may be won", table.discard(k("3s"), true) > 0, true);
        CHECK.due("no option by runs alone", table.options(1) & 16, 0);

        table = new Scene().hand(0, READY).hand(1, "123m 345m 678p 45s 44z").draws("3s").indicators("1z", "").deal();
        CHECK.due("riichi that is won", table.discard(k("3s"), true), 2);
        CHECK.due("won", table.claim(1, 4, 0), 3);
        CHECK.due("no stick is paid", table.points(0), 29000);
        CHECK.due("no stick", table.table(3), 0);
        CHECK.due("the winner has no stick", table.points(1), 31000);
    }

    private static void riichiNeedsReady() {
        RiichiTable table = new Scene().hand(0, READY).draws("1z").deal();
        CHECK.due("not with another one", table.discard(k("6s"), true), -1);
        CHECK.due("not with another one", table.discard(k("2m"), true), -1);
        CHECK.due("with this one", table.discard(k("1z"), true) > 0, true);

        table = new Scene().hand(0, READY).draws("8s").deal();
        CHECK.due("of a complete hand", table.discard(k("9p"), true) > 0, true);
        CHECK.due("ready for 9p", table.waits(0), Scene.mask("9p"));

        table = new Scene().hand(0, "1111m 234p 567p 789s").draws("3z").deal();
        CHECK.due("all four are one's own", table.discard(k("3z"), true), -1);
        CHECK.due("a quad keeps it so", table.quad(k("1m")), 1);

        table = new Scene().hand(0, "1111m 234p 567p 789s").draws("3z").deal();
        CHECK.due("one of the four goes", table.discard(k("1m"), true) > 0, true);
        CHECK.due("ready for 3z", table.waits(0), Scene.mask("3z"));
    }

    private static void riichiNeedsClosed() {
        RiichiTable table = new Scene().hand(0, "22z 234m 678m 67s 99p 1z").hand(3, "2z").draws("3z 4z 4z 3z 4z").deal();
        Scene.letGo(table, k("3z"));
        Scene.letGoDrawn(table, 2);
        CHECK.due("feeds", table.discard(k("2z"), false), 2);
        table.claim(0, 2, 0);
        Scene.pass(table);
        CHECK.due("taken", table.meld(0, 0), 4 * k("2z") + 1);
        CHECK.due("no riichi with nothing drawn", table.discard(k("1z"), true), -1);
        Scene.letGo(table, k("1z"));
        Scene.letGoDrawn(table, 3);
        CHECK.due("ready", table.who(), 0);
        CHECK.due("no riichi with an open meld", table.discard(table.drawn(), true), -1);
        Scene.letGoDrawn(table, 1);
        CHECK.due("ready all the time", table.waits(0), Scene.mask("58s"));

        table = new Scene().hand(0, "1111z 234m 678m 67s 9p").draws("9p").replacements("5z").deal();
        CHECK.due("closed quad", table.quad(k("1z")), 1);
        CHECK.due("riichi with a closed quad", table.discard(k("5z"), true) > 0, true);
    }

    /** Player 1 has the turn with LEFT 4, player 2 with LEFT 3. */
    private static void riichiNeedsLeft() {
        RiichiTable table = new Scene().hand(0, "147m 258p 369s 1234z").hand(1, READY)
                .hand(2, "123m 678p 345s 67p 44z").hand(3, "147m 258p 369s 5671z").deal();
        Scene.letGoDrawn(table, 65);
        CHECK.due("who", table.who(), 1);
        CHECK.due("left", table.table(4), 4);
        int kind = table.drawn();
        CHECK.due("riichi with 4 left", table.discard(kind, true) > 0, true);
        Scene.pass(table);
        CHECK.due("who", table.who(), 2);
        CHECK.due("left", table.table(4), 3);
        CHECK.due("no riichi with 3 left", table.discard(table.drawn(), true), -1);
        Scene.letGoDrawn(table, 1);
        CHECK.due("though ready", table.waits(2) != 0, true);
    }

    /** Player 3 loses 16000, 12000 and then 1000 or 1300; then they deal and are ready. */
    private static void riichiNeedsPoints(String thirdTile, String third, int points) {
        RiichiTable table = new RiichiTable(9);
        lose(table, new Scene().hand(1, "1122m 4466m 8899m 5m").hand(3, "5m"), 3, k("5m"), 1);
        lose(table, new Scene().hand(1, "234345m 68m 111m 99m").hand(2, "7m"), 2, k("7m"), 2);
        lose(table, new Scene().hand(2, third).hand(1, thirdTile), 1, k(thirdTile), 0);
        CHECK.due("points", table.points(3), points);
        new Scene().hand(0, READY).draws("1z").dealOn(table);
        CHECK.due("who", table.who(), 3);
        int answer = table.discard(k("1z"), true);
        CHECK.due("riichi with " + points, answer > 0, points >= 1000);
        if (answer == 2) Scene.pass(table);
        CHECK.due("points then", table.points(3), points >= 1000 ? points - 1000 : points);
    }

    private static void lose(RiichiTable table, Scene scene, int seat, int kind, int winner) {
        scene.indicators("1z", "").dealOn(table);
        Scene.letGoDrawn(table, seat);
        CHECK.due("the loser's turn", table.who(), 3);
        table.discard(kind, false);
        table.claim(winner, 4, 0);
        Scene.pass(table);
        CHECK.due("the loser has lost", table.phase(), 3);
        table.next();
    }

    private static void closedQuads() {
        RiichiTable table = new Scene().hand(0, "1111m 333p 159s 123z").draws("3p 6s 7s").replacements("5z 6z").deal();
        CHECK.due("quad with one in the hand alone", table.quad(k("1z")), -1);
        CHECK.due("closed quad of the hand", table.quad(k("1m")), 1);
        CHECK.due("meld", table.meld(0, 0), 4 * k("1m") + 3);
        CHECK.due("no second meld", table.meld(0, 1), -1);
        CHECK.due("none concealed", table.concealed(0, k("1m")), 0);
        CHECK.due("replacement", table.drawn(), k("5z"));
        CHECK.due("left", table.table(4), 68);
        CHECK.due("quads", table.table(5), 1);
        CHECK.due("who", table.who(), 0);
        CHECK.due("closed quad with the drawn one", table.quad(k("3p")), 1);
        CHECK.due("second meld", table.meld(0, 1), 4 * k("3p") + 3);
        CHECK.due("second replacement", table.drawn(), k("6z"));
        CHECK.due("left", table.table(4), 67);
        CHECK.due("quads", table.table(5), 2);
        CHECK.due("not twice", table.quad(k("3p")), -1);
        CHECK.due("discard", table.discard(k("5z"), false) > 0, true);
        Scene.pass(table);
        CHECK.due("the next one draws on", table.drawn(), k("6s"));
        CHECK.due("meld of player 4", table.meld(4, 0), -1);
        CHECK.due("meld of player -1", table.meld(-1, 0), -1);
        CHECK.due("meld -1", table.meld(0, -1), -1);
    }

    private static void quadsOnTheTable() {
        RiichiTable table = new Scene().hand(0, "1111m 3333p 5555s 1z").hand(1, "7777m 9999p 11112s")
                .draws("2z 3z").replacements("4z 5z 6z 7z").deal();
        for (String kind : new String[] {"1m", "3p", "5s"}) CHECK.due("quad of " + kind, table.quad(k(kind)), 1);
        Scene.letGo(table, k("1z"));
        CHECK.due("who", table.who(), 1);
        CHECK.due("fourth quad", table.quad(k("7m")), 1);
        CHECK.due("fourth replacement", table.drawn(), k("7z"));
        CHECK.due("four", table.table(5), 4);
        CHECK.due("left", table.table(4), 64);
        CHECK.due("no fifth", table.quad(k("9p")), -1);
        CHECK.due("no fifth", table.meld(1, 1), -1);

        for (int before = 3; before <= 4; before++) {
            table = new Scene().hand(0, "1111m 3333p 5555s 1z").hand(1, "7777m 159p 169s 234z").hand(2, "888s")
                    .draws("2z 8s").replacements("4z 5z 6z 7z").deal();
            for (String kind : new String[] {"1m", "3p", "5s"}) table.quad(k(kind));
            Scene.letGo(table, k("1z"));
            if (before == 4) table.quad(k("7m"));
            CHECK.due("quads there", table.table(5), before);
            table.discard(k("8s"), false);
            CHECK.due("one more is an option", table.options(2) & 12, before == 3 ? 12 : 4);
        }
    }

    /** With LEFT 1 a quad is made, with LEFT 0 none. */
    private static void quadsNeedLeft() {
        for (int left = 0; left < 2; left++) {
            RiichiTable table = new Scene().hand(0, "1111z 258p 369s 234z").hand(1, "2222m 258p 369s 567z")
                    .hand(2, "147m 147p 14s 22233z").hand(3, "147m 147p 147s 5567z").spare("9999m").deal();
            Scene.letGoDrawn(table, left == 1 ? 68 : 69);
            CHECK.due("left", table.table(4), left);
            CHECK.due("who", table.who(), left == 1 ? 0 : 1);
            int kind = left == 1 ? k("1z") : k("2m");
            CHECK.due("four", table.concealed(table.who(), kind), 4);
            CHECK.due("quad with left " + left, table.quad(kind), left == 1 ? 1 : -1);
            CHECK.due("left then", table.table(4), 0);
            if (left == 1) {
                CHECK.due("no second quad", table.quad(table.drawn()), -1);
                Scene.letGoDrawn(table, 1);
                CHECK.due("drawn out", table.phase(), 3);
            }
        }
    }

    private static void addedQuads() {
        RiichiTable table = new Scene().hand(0, "5z 159m 159p 159s 124z").hand(1, "55z 37m 37p 22z 3399s 5m")
                .hand(2, "147m 147p 147s 4466z").hand(3, "258m 258p 258s 1236z")
                .draws("3z 4z 7z 7z 5z 6z").replacements("3z").deal();
        table.discard(k("5z"), false);
        CHECK.due("taken", table.claim(1, 2, 0), 1);
        CHECK.due("meld", table.meld(1, 0), 4 * k("5z") + 1);
        CHECK.due("nothing drawn", table.drawn(), -1);
        CHECK.due("no quad with nothing drawn", table.quad(k("5z")), -1);
        CHECK.due("no win with nothing drawn", table.win(), -1);
        Scene.letGo(table, k("5m"));
        Scene.letGoDrawn(table, 2);
        Scene.letGo(table, table.drawn());
        CHECK.due("who", table.who(), 1);
        CHECK.due("the fourth", table.drawn(), k("5z"));
        CHECK.due("added", table.quad(k("5z")), 1);
        CHECK.due("at its place", table.meld(1, 0), 4 * k("5z") + 2);
        CHECK.due("replacement", table.drawn(), k("3z"));
        CHECK.due("quads", table.table(5), 1);
        CHECK.due("none concealed", table.concealed(1, k("5z")), 0);
    }

    private static RiichiTable addedToRob() {
        RiichiTable table = new Scene().hand(0, "3s 159m 159p 15s 1244z").hand(1, "33s 22z 7m 37p 3399m 5m 6m")
                .hand(2, "123m 678m 345p 12s 99p").hand(3, "258m 258p 8s 2z 6677z")
                .draws("5z 4z 5z 5z 3s 6z").replacements("6z").deal();
        table.discard(k("3s"), false);
        table.claim(1, 2, 0);
        Scene.pass(table);
        Scene.letGo(table, k("5m"));
        Scene.letGoDrawn(table, 2);
        Scene.letGo(table, table.drawn());
        return table;
    }

    private static void robbedQuads() {
        RiichiTable table = addedToRob();
        CHECK.due("who", table.who(), 1);
        CHECK.due("asks", table.quad(k("3s")), 2);
        CHECK.due("phase", table.phase(), 2);
        CHECK.due("who is asked about", table.who(), 1);
        CHECK.due("the tile", table.drawn(), k("3s"));
        CHECK.due("not concealed", table.concealed(1, k("3s")), 0);
        CHECK.due("still a triplet", table.meld(1, 0), 4 * k("3s") + 1);
        CHECK.due("no quad yet", table.table(5), 0);
        CHECK.due("winning alone", table.options(2), 16);
        CHECK.due("nobody else", table.options(0) + table.options(3) + table.options(1), 0);
        CHECK.due("no run", table.claim(2, 1, k("1s")), -1);
        CHECK.due("let go", table.claim(2, 0, 0), 1);
        CHECK.due("completed", table.meld(1, 0), 4 * k("3s") + 2);
        CHECK.due("replacement", table.drawn(), k("6z"));
        CHECK.due("who", table.who(), 1);
        CHECK.due("quads", table.table(5), 1);

        table = addedToRob();
        table.quad(k("3s"));
        CHECK.due("robbed", table.claim(2, 4, 0), 3);
        CHECK.due("yaku", table.yaku(2), Check.bits(5));
        CHECK.due("fu", table.worth(2, 1), 40);
        CHECK.due("it stays a triplet", table.meld(1, 0), 4 * k("3s") + 1);
        CHECK.due("no quad", table.table(5), 0);
        CHECK.due("the tile does not become concealed", table.concealed(2, k("3s")), 0);
        CHECK.due("nor does it go back", table.concealed(1, k("3s")), 0);
        CHECK.due("who", table.who(), -1);
        CHECK.due("drawn", table.drawn(), -1);
        CHECK.due("the maker pays", table.points(1), 30000 - table.worth(2, 3));
    }

    /** What is added need not be what was drawn. */
    private static void addedLater() {
        RiichiTable table = addedToRob();
        Scene.letGo(table, k("7m"));
        Scene.letGoDrawn(table, 3);
        CHECK.due("who", table.who(), 1);
        CHECK.due("another one is drawn", table.drawn() == k("3s"), false);
        CHECK.due("asks", table.quad(k("3s")), 2);
        CHECK.due("the tile", table.drawn(), k("3s"));
        CHECK.due("robbed", table.claim(2, 4, 0), 3);
    }

    private static void winning() {
        RiichiTable table = new Scene().hand(0, "123m 456p 555s 78p 99m").draws("9p").deal();
        CHECK.due("win", table.win(), 13);
        CHECK.due("phase", table.phase(), 3);
        CHECK.due("no second win", table.win(), -1);
        CHECK.due("what was drawn stays concealed", table.concealed(0, k("9p")), 1);
        CHECK.due("no waits with it", table.waits(0), 0);
        CHECK.due("no discard then", table.discard(k("9p"), false), -1);
        CHECK.due("no quad then", table.quad(k("5s")), -1);
        CHECK.due("no options then", table.options(1), 0);
        CHECK.due("no claim then", table.claim(1, 0, 0), -1);

        // Open, complete, and without any yaku.
        table = new Scene().hand(0, "45p 678m 67s 99p 234m 7z").hand(3, "3p").draws("3z 4z 3z 5z 4z 4z 5z 5s").deal();
        Scene.letGo(table, k("3z"));
        Scene.letGoDrawn(table, 2);
        table.discard(k("3p"), false);
        CHECK.due("run", table.claim(0, 1, k("3p")), 1);
        Scene.letGo(table, k("7z"));
        Scene.letGoDrawn(table, 3);
        CHECK.due("who", table.who(), 0);
        CHECK.due("drawn", table.drawn(), k("5s"));
        CHECK.due("no yaku", table.win(), -1);
        CHECK.due("nothing won", table.worth(0, 0), -1);
        CHECK.due("the turn goes on", table.discard(k("5s"), false) > 0, true);
    }
}
