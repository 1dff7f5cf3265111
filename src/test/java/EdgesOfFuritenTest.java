/** The boundary cases of furiten and of the first go-round, and of promises 16 and 17. */
public final class EdgesOfFuritenTest {
    private static final Check CHECK = new Check();
    private static final String QUIET = "147m 258p 369s 345z";
    /** Ready for 5s and 8s, with yaku 8. */
    private static final String READY = "234m 678m 345p 67s 99p";
    /** Ready for 7s, without a yaku. */
    private static final String PLAIN = "234m 678m 345p 68s 99p";

    public static void main(String[] args) {
        ownDiscards();
        ofThisHand();
        missedByAnswer();
        missedAddedQuad();
        missedWithoutOptions();
        missedByOthersOptions();
        notedWhenSettled();
        notedFirst();
        forgottenByDraw();
        forgottenByTaking();
        notInRiichi();
        oneToDiscard();
        addedTile();
        wonTile();
        firstGoRound();
        waitsAnswers();
        furitenAnswers();
        CHECK.end();
    }

    private static int k(String text) {
        return Scene.kind(text);
    }

    private static void ownDiscards() {
        CHECK.sentence("FURITEN is a player one of whose waits is among their own discards of this hand;");
        String[] own = {"5s", "8s", "6s", "9s", "1z"};
        for (int i = 0; i < own.length; i++) {
            RiichiTable table = new Scene().hand(0, READY).hand(1, QUIET).hand(2, "147m 258p 39s 345z").hand(3, "147m 258p 39s 345z")
                    .draws(own[i] + "1z 1z 1z 2z").deal();
            CHECK.due("before it", table.furiten(0), false);
            Scene.letGo(table, k(own[i]));
            CHECK.due("discard " + own[i], table.furiten(0), i < 2);
            for (int p = 1; p < 4; p++) CHECK.due("another one", table.furiten(p), false);
            Scene.letGoDrawn(table, 4);
            CHECK.due("later, too", table.furiten(0), i < 2);
        }
        // A discard that becomes a wait later.
        RiichiTable table = new Scene().hand(0, "234m 678m 345p 7s 99p 1z").hand(1, QUIET).hand(2, QUIET).hand(3, QUIET).draws("5s 2z 2z 2z 6s").deal();
        Scene.letGo(table, k("5s"));
        CHECK.due("not ready", table.furiten(0), false);
        Scene.letGoDrawn(table, 3);
        Scene.letGo(table, k("1z"));
        CHECK.due("ready", table.waits(0), Scene.mask("58s"));
        CHECK.due("5s was discarded before", table.furiten(0), true);
    }

    private static void ofThisHand() {
        CHECK.sentence("among their own discards of this hand;");
        RiichiTable table = new Scene().hand(0, READY).hand(1, "19m 19p 19s 1234567z").draws("5s 1m").deal();
        Scene.letGo(table, k("5s"));
        CHECK.due("furiten", table.furiten(0), true);
        CHECK.due("won", table.win(), 13);
        CHECK.due("when it is over", table.furiten(0), true);
        table.next();
        new Scene().hand(0, QUIET).hand(3, READY).draws("1z 1z").dealOn(table);
        CHECK.due("in the next hand", table.waits(0), Scene.mask("58s"));
        CHECK.due("in the next hand", table.furiten(0), false);
    }

    private static void missedByAnswer() {
        CHECK.sentence("or one who MISSED: a tile to which there were claims,");
        for (int what = 0; what < 3; what++) {
            RiichiTable table = new Scene().hand(0, READY).hand(1, "8s 147m 258p 345z").hand(2, QUIET).hand(3, QUIET).draws("1z 1z 2z 2z").deal();
            Scene.letGo(table, k("1z"));
            table.discard(what == 1 ? k("1z") : k("8s"), false);
            CHECK.due("options", table.options(0) & 16, what == 1 ? 0 : 16);
            if (what != 1) table.claim(0, what == 0 ? 0 : 4, 0);
            Scene.pass(table);
            CHECK.due("missed with " + what, table.furiten(0), what == 0);
        }
    }

    private static void missedAddedQuad() {
        CHECK.sentence("a tile to which there were claims,");
        for (int what = 0; what <= 4; what += 4) {
            RiichiTable table = Phases.at(Phases.ADDED);
            CHECK.due("before the answer", table.furiten(2), false);
            table.claim(2, what, 0);
            CHECK.due("tile of an added quad, answer " + what, table.furiten(2), what == 0);
            CHECK.due("who does not wait for it", table.furiten(0), false);
        }
    }

    private static void missedWithoutOptions() {
        CHECK.sentence("or a discard to which nobody had options, was one of their waits and they did not win by it.");
        RiichiTable table = new Scene().hand(0, PLAIN).hand(1, "7s 147m 258p 345z").hand(2, "147m 258p 39s 345z").hand(3, "147m 258p 39s 345z")
                .draws("1z 1z 2z 2z 6z").deal();
        Scene.letGo(table, k("1z"));
        CHECK.due("no options", table.discard(k("7s"), false), 1);
        CHECK.due("missed", table.furiten(0), true);
        CHECK.due("others not", table.furiten(3), false);
        // Another kind is not missed.
        table = new Scene().hand(0, PLAIN).hand(1, "1s 147m 258p 345z").hand(2, "147m 258p 39s 345z").hand(3, "147m 258p 39s 345z")
                .draws("1z 1z 2z 2z 6z").deal();
        Scene.letGo(table, k("1z"));
        Scene.letGo(table, k("1s"));
        CHECK.due("not missed", table.furiten(0), false);
        // With LEFT 0 nobody can take it, and one who waits for it without a yaku has missed it.
        table = new Scene().hand(0, PLAIN).hand(1, "7s 147m 28p 345z").spare("1111z 2222z").hand(2, "777s 147m 58p 45z").hand(3, "147m 258p 345z").deal();
        Scene.letGoDrawn(table, 69);
        CHECK.due("left", table.table(4), 0);
        boolean before = table.furiten(0);
        table.discard(k("7s"), false);
        Scene.pass(table);
        CHECK.due("the last discard", table.furiten(0), true);
        CHECK.due("before it", before, false);
    }

    /** Player 2 may take it; player 0 has no option, and player 3 could win. */
    private static void missedByOthersOptions() {
        CHECK.sentence("a tile to which there were claims, or a discard to which nobody had options");
        for (int what = 0; what < 5; what += 2) {
            RiichiTable table = new Scene().hand(0, PLAIN).hand(1, "7s 147m 258p 345z").hand(2, "77s 147m 369p 345z 1s").hand(3, "777z 123m 567p 89s 99m")
                    .draws("1z 1z 2z 2z 6z").indicators("1z", "").deal();
            Scene.letGo(table, k("1z"));
            CHECK.due("claims", table.discard(k("7s"), false), 2);
            CHECK.due("no option", table.options(0), 0);
            CHECK.due("not noted yet", table.furiten(0), false);
            table.claim(2, what == 2 ? 2 : 0, 0);
            table.claim(3, what == 4 ? 4 : 0, 0);
            CHECK.due("phase", table.phase(), what == 4 ? 3 : 1);
            CHECK.due("missed with answer " + what, table.furiten(0), true);
            CHECK.due("who could win, with answer " + what, table.furiten(3), what != 4);
        }
    }

    private static void notedWhenSettled() {
        CHECK.sentence("Missing is noted when the claims are settled, first of all;");
        RiichiTable table = new Scene().hand(0, READY).hand(1, "8s 147m 258p 345z").hand(2, "88s 147m 369p 345z 1s").hand(3, QUIET)
                .draws("1z 1z 2z 2z 6z").deal();
        Scene.letGo(table, k("1z"));
        table.discard(k("8s"), false);
        CHECK.due("let go", table.claim(0, 0, 0), 2);
        CHECK.due("not settled", table.furiten(0), false);
        CHECK.due("let go", table.claim(2, 0, 0), 1);
        CHECK.due("settled", table.furiten(0), true);
    }

    /** The player behind draws at once, and has forgotten it. */
    private static void notedFirst() {
        CHECK.sentence("when the claims are settled, first of all; it is forgotten when the player draws");
        RiichiTable table = new Scene().hand(0, "147m 258p 345z").hand(1, "234m 678m 345p 678s 1z").hand(2, QUIET).hand(3, QUIET).draws("1z 2z 2z 6z").deal();
        CHECK.due("waits for it", table.waits(1), Scene.mask("1z"));
        CHECK.due("no options", table.discard(k("1z"), false), 1);
        CHECK.due("who", table.who(), 1);
        CHECK.due("drawn", table.furiten(1), false);
        CHECK.due("discard", table.discard(k("2z"), false), 1);
        CHECK.due("forgotten", table.furiten(1), false);
        // Two of 6z and 5z each wait for both: who takes the tile has missed it before, and forgets it.
        table = new Scene().hand(0, "234m 678m 345p 55z 66z").hand(1, "5z 147m 258p 369s 134z").hand(2, QUIET).hand(3, "234z 147m 258p 369s 1z")
                .draws("7z 7z 7z 6z").deal();
        Scene.letGo(table, k("7z"));
        table.discard(k("5z"), false);
        CHECK.due("taken", table.claim(0, 2, 0) > 0, true);
        Scene.pass(table);
        CHECK.due("forgotten with the tile", table.furiten(0), false);
    }

    private static void forgottenByDraw() {
        CHECK.sentence("it is forgotten when the player draws or takes a tile (also this tile),");
        RiichiTable table = new Scene().hand(0, READY).hand(1, "8s 147m 258p 345z").hand(2, "5s 147m 258p 345z").hand(3, "8s 147m 258p 345z")
                .draws("1z 1z 2z 2z 6z 6z 7z").deal();
        Scene.letGo(table, k("1z"));
        Scene.letGo(table, k("8s"));
        CHECK.due("missed", table.furiten(0), true);
        Scene.letGoDrawn(table, 1);
        CHECK.due("still", table.furiten(0), true);
        Scene.letGoDrawn(table, 1);
        CHECK.due("drawn", table.who(), 0);
        CHECK.due("forgotten", table.furiten(0), false);
        Scene.letGoDrawn(table, 1);
        CHECK.due("and stays so", table.furiten(0), false);
        Scene.letGoDrawn(table, 1);
        table.discard(k("5s"), false);
        CHECK.due("can win again", table.options(0) & 16, 16);

        // A replacement is a draw, too: player 0 has missed, and takes a quad.
        table = new Scene().hand(0, "234m 678m 67s 99p 111z").hand(1, "8s 147m 258p 345z").hand(2, "1z 147m 258p 345z").hand(3, QUIET)
                .draws("2z 2z 2z 6z 6z 6z").replacements("3z").deal();
        Scene.letGo(table, k("2z"));
        Scene.letGo(table, k("8s"));
        CHECK.due("missed", table.furiten(0), true);
        table.discard(k("1z"), false);
        CHECK.due("quad", table.claim(0, 3, 0), 1);
        CHECK.due("forgotten", table.furiten(0), false);
        Scene.letGo(table, k("3z"));
        CHECK.due("ready again", table.waits(0), Scene.mask("58s"));
        CHECK.due("and stays so", table.furiten(0), false);
    }

    /** Player 0 has missed 8s; then they take 1z, another tile. */
    private static void forgottenByTaking() {
        CHECK.sentence("or takes a tile (also this tile),");
        RiichiTable table = new Scene().hand(0, "234m 678m 67s 99p 11z 2m").hand(1, "8s 147m 258p 345z").hand(2, "1z 147m 258p 345z").hand(3, QUIET)
                .draws("2z 2z 2z 6z 6z 6z").deal();
        Scene.letGo(table, k("2z"));
        Scene.letGo(table, k("8s"));
        CHECK.due("not ready", table.furiten(0), false);
        table = new Scene().hand(0, "234m 678m 67s 99p 11z 1z").hand(1, "8s 147m 258p 345z").hand(2, "1z 147m 258p 345z").hand(3, QUIET)
                .draws("2z 2z 2z 6z 6z 6z").deal();
        Scene.letGo(table, k("2z"));
        Scene.letGo(table, k("8s"));
        CHECK.due("missed", table.furiten(0), true);
        table.discard(k("1z"), false);
        CHECK.due("triplet", table.claim(0, 2, 0), 1);
        CHECK.due("forgotten", table.furiten(0), false);
        Scene.letGo(table, k("1z"));
        CHECK.due("ready again", table.waits(0), Scene.mask("58s"));
        CHECK.due("and stays so", table.furiten(0), false);
        // This tile: a run with what was missed.
        table = new Scene().hand(1, "67s 234m 678m 345p 99p").hand(0, "8s 147m 258p 345z").hand(2, QUIET).hand(3, QUIET).draws("2z 2z").deal();
        table.discard(k("8s"), false);
        CHECK.due("win or run", table.options(1), 18);
        CHECK.due("run", table.claim(1, 1, k("6s")), 1);
        CHECK.due("forgotten", table.furiten(1), false);
        Scene.letGo(table, k("9p"));
        CHECK.due("ready for the pair, which lies there", table.furiten(1), true);
        CHECK.due("waits", table.waits(1), Scene.mask("9p"));
    }

    private static void notInRiichi() {
        CHECK.sentence("(also this tile), but not in riichi.");
        for (int riichi = 0; riichi < 2; riichi++) {
            RiichiTable table = new Scene().hand(0, READY).hand(1, "8s 147m 258p 345z").hand(2, "5s 147m 258p 345z").hand(3, QUIET)
                    .draws("1z 1z 2z 2z 6z 6z 7z").deal();
            table.discard(k("1z"), riichi == 1);
            Scene.pass(table);
            Scene.letGo(table, k("8s"));
            CHECK.due("missed", table.furiten(0), true);
            Scene.letGoDrawn(table, 2);
            CHECK.due("drawn in riichi " + riichi, table.furiten(0), riichi == 1);
            Scene.letGoDrawn(table, 1);
            CHECK.due("behind the discard", table.furiten(0), riichi == 1);
            Scene.letGoDrawn(table, 1);
            table.discard(k("5s"), false);
            CHECK.due("win in riichi " + riichi, table.options(0) & 16, riichi == 1 ? 0 : 16);
        }
        // The next hand begins without it.
        RiichiTable table = new Scene().hand(0, READY).hand(1, "8s 147m 258p 345z").hand(2, "19m 19p 19s 1234567z").hand(3, QUIET).draws("1z 1z 1z").deal();
        table.discard(k("1z"), true);
        Scene.pass(table);
        Scene.letGo(table, k("8s"));
        CHECK.due("missed", table.furiten(0), true);
        CHECK.due("won", table.win(), 13);
        table.next();
        new Scene().hand(3, READY).draws("1z").dealOn(table);
        CHECK.due("the next hand", table.furiten(0), false);
    }

    private static void oneToDiscard() {
        CHECK.sentence("A player who has one concealed tile to discard has no waits.");
        RiichiTable table = new Scene().hand(0, READY).hand(1, QUIET).hand(2, QUIET).hand(3, QUIET).draws("5s 1z 1z 1z 1z").deal();
        CHECK.due("drawn", table.waits(0), 0);
        Scene.letGo(table, k("5s"));
        CHECK.due("discarded", table.waits(0), Scene.mask("58s"));
        CHECK.due("furiten", table.furiten(0), true);
        Scene.letGoDrawn(table, 3);
        CHECK.due("drawn again", table.waits(0), 0);
        CHECK.due("no furiten by discards", table.furiten(0), false);
        table = Phases.at(Phases.CALLED);
        CHECK.due("called", table.waits(table.who()), 0);
        // Won by a draw: the tile stays.
        table = new HandScene(1, READY, "", "5s", true).play();
        table.win();
        CHECK.due("over", table.waits(1), 0);
    }

    private static void addedTile() {
        CHECK.sentence("The tile of an added quad is no more concealed while it is claimed;");
        RiichiTable table = Phases.at(Phases.ADDED);
        CHECK.due("concealed", table.concealed(1, k("3s")), 0);
        CHECK.due("the triplet", table.meld(1, 0), 4 * k("3s") + 1);
        int sum = 0;
        for (int kind = 0; kind < 34; kind++) sum += table.concealed(1, kind);
        CHECK.due("what lacks one", sum, 10);
        // A maker who is ready has waits then: player 1 waits with 45s for 3s, of which they have three, and for 6s.
        table = new Scene().hand(0, "3s 159m 159p 15s 1244z").hand(1, "33s 45s 789m 77p 777z 6z").hand(2, "123m 678m 345p 12s 99p")
                .hand(3, "258m 258p 8s 24z").draws("5z 4z 5z 5z 3s 6z").replacements("6z").deal();
        table.discard(k("3s"), false);
        table.claim(1, 2, 0);
        Scene.pass(table);
        Scene.letGo(table, k("6z"));
        Scene.letGoDrawn(table, 3);
        CHECK.due("one to discard", table.waits(1), 0);
        CHECK.due("added", table.quad(k("3s")), 2);
        CHECK.due("lacks one", table.waits(1), Scene.mask("36s"));
        CHECK.due("let go", table.claim(2, 0, 0), 1);
        CHECK.due("one to discard", table.waits(1), 0);
        Scene.letGo(table, k("6z"));
        CHECK.due("all four of 3s", table.waits(1), Scene.mask("6s"));
    }

    private static void wonTile() {
        CHECK.sentence("a tile that is won does not become concealed.");
        RiichiTable table = Phases.at(Phases.OVER);
        CHECK.due("of a discard", table.concealed(3, k("5p")), 0);
        CHECK.due("lacks one", table.waits(3), Scene.mask("25p"));
        table = Phases.at(Phases.ADDED);
        table.claim(2, 4, 0);
        CHECK.due("of an added quad", table.concealed(2, k("3s")), 0);
        CHECK.due("nor is it the maker's", table.concealed(1, k("3s")), 0);
        CHECK.due("lacks one", table.waits(2), Scene.mask("3s"));
        // What is drawn is concealed already.
        table = new HandScene(1, READY, "", "5s", true).play();
        table.win();
        CHECK.due("what was drawn", table.concealed(1, k("5s")), 1);
    }

    /** The yaku 40 and 41 tell it. */
    private static void firstGoRound() {
        CHECK.sentence("they have not discarded yet in this hand, and nobody has called or made a quad.");
        for (int seat = 0; seat < 4; seat++) {
            for (int turn = 0; turn < 2; turn++) {
                Scene scene = new Scene().draws("1z 1z 1z 2z 6z 6z 6z 7z").put(52 + seat + 4 * turn, "5s").indicators("1s", "");
                for (int p = 0; p < 4; p++) scene.hand(p, p == seat ? READY : QUIET);
                RiichiTable table = scene.deal();
                Scene.letGoDrawn(table, seat + 4 * turn);
                CHECK.due("won", table.win() > 0, true);
                CHECK.due("seat " + seat + " in turn " + turn, table.yaku(seat) >> 40, turn == 1 ? 0 : seat == 0 ? 1 : 2);
            }
        }
        // Another one has called, or made a closed quad; or the player has made one themselves.
        RiichiTable table = new Scene().hand(0, "7z 147m 258p 369s 34z").hand(1, "77z 147m 258p 369s 34z").hand(2, READY).hand(3, QUIET).draws("6z 5s").deal();
        table.discard(k("7z"), false);
        table.claim(1, 2, 0);
        Scene.letGo(table, k("3z"));
        CHECK.due("behind a call", table.win() > 0, true);
        CHECK.due("behind a call", table.yaku(2) >> 40, 0);
        table = new Scene().hand(0, "7777z 147m 258p 369s").hand(1, READY).hand(2, QUIET).hand(3, QUIET).draws("6z 5s").replacements("6z").deal();
        table.quad(k("7z"));
        Scene.letGo(table, k("6z"));
        CHECK.due("behind a quad", table.win() > 0, true);
        CHECK.due("behind a quad", table.yaku(1) >> 40, 0);
        table = new Scene().hand(0, "7777z 678m 345p 67s 9p").hand(1, QUIET).hand(2, QUIET).hand(3, QUIET).draws("9p").replacements("5s").deal();
        table.quad(k("7z"));
        CHECK.due("behind one's own quad", table.win() > 0, true);
        CHECK.due("behind one's own quad", table.yaku(0) >> 40, 0);
        // In the hand behind one with calls the first go-round is there again.
        table = new Scene().hand(0, "7z 147m 258p 369s 34z").hand(1, "77z 147m 258p 369s 34z").hand(2, READY).hand(3, QUIET).draws("6z 5s").deal();
        table.discard(k("7z"), false);
        table.claim(1, 2, 0);
        Scene.letGo(table, k("3z"));
        table.win();
        table.next();
        new Scene().hand(0, READY).draws("5s").dealOn(table);
        CHECK.due("the next hand", table.win(), 13);
        CHECK.due("the next hand", table.yaku(1), Check.bits(40));
    }

    private static void waitsAnswers() {
        CHECK.sentence("0 when they don't lack one (of a player who has one to discard), in phases 0 and 4, or p isn't there.");
        for (int which = 0; which < Phases.MANY; which++) {
            RiichiTable table = Phases.at(which);
            for (int p : new int[] {Integer.MIN_VALUE, -1, 4, Integer.MAX_VALUE}) CHECK.due("waits of " + p, table.waits(p), 0);
            for (int p = 0; p < 4; p++) {
                boolean ready = which == Phases.ADDED ? p == 2 : which != Phases.WALL && which != Phases.FINISHED && p == 3;
                long want = which == Phases.ADDED ? Scene.mask("3s") : Scene.mask("25p");
                CHECK.due("waits of " + p + " in phase " + which, table.waits(p), ready ? want : 0);
            }
        }
        // The least and the greatest kind.
        RiichiTable table = new Scene().hand(1, "23m 345m 678p 345s 99p").hand(2, "111m 456p 789s 888m 7z").deal();
        CHECK.due("kind 0", table.waits(1), Scene.mask("14m"));
        CHECK.due("kind 33", table.waits(2), 1L << 33);
        // Ready when the last hand ends: phase 4.
        table = Scene.before(7);
        new Scene().hand(0, QUIET).hand(1, READY).hand(2, "5s 147m 258p 34z").draws("1z 2z 6z").dealOn(table);
        Scene.letGoDrawn(table, 2);
        table.discard(k("5s"), false);
        CHECK.due("ready", table.waits(0), Scene.mask("58s"));
        CHECK.due("finished", table.claim(0, 4, 0), 4);
        CHECK.due("no waits then", table.waits(0), 0);
    }

    private static void furitenAnswers() {
        CHECK.sentence("false in phases 0 and 4, or when p isn't there.");
        RiichiTable table = Scene.before(7);
        new Scene().hand(0, READY).hand(1, "19m 19p 19s 1234567z").draws("5s 1m").dealOn(table);
        CHECK.due("phase 0 to 1", table.furiten(3), false);
        Scene.letGo(table, k("5s"));
        CHECK.due("furiten", table.furiten(3), true);
        CHECK.due("won", table.win(), 13);
        CHECK.due("finished", table.phase(), 4);
        CHECK.due("phase 4", table.furiten(3), false);
        table = new Scene().hand(0, READY).hand(1, "19m 19p 19s 1234567z").draws("5s 1m").deal();
        Scene.letGo(table, k("5s"));
        table.win();
        CHECK.due("phase 3", table.furiten(0), true);
        for (int p : new int[] {Integer.MIN_VALUE, -1, 4, Integer.MAX_VALUE}) CHECK.due("furiten of " + p, table.furiten(p), false);
        table.next();
        CHECK.due("phase 0", table.furiten(0), false);
    }
}
