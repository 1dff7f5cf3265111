/** The boundary cases of promises 10 to 15: what is told of the phase, the turn and the tiles. */
public final class EdgesOfAnswersTest {
    private static final Check CHECK = new Check();
    private static final int[] FAR = {Integer.MIN_VALUE, Integer.MIN_VALUE + 1, -1, Integer.MAX_VALUE - 1, Integer.MAX_VALUE};
    private static final String QUIET = "147m 258p 369s 345z";

    public static void main(String[] args) {
        phase();
        who();
        drawn();
        concealed();
        concealedWithDrawn();
        meld();
        meldOrder();
        meldForms();
        river();
        riverOfTaken();
        CHECK.end();
    }

    private static int k(String text) {
        return Scene.kind(text);
    }

    private static void phase() {
        CHECK.sentence("PHASES: 0 WALL, 1 TURN, 2 CLAIMS, 3 OVER (a hand is at its end), 4 FINISHED.");
        for (int which = 0; which < Phases.MANY; which++) CHECK.due("phase " + which, Phases.at(which).phase(), Phases.phaseOf(which));
        RiichiTable table = Phases.at(Phases.OVER);
        table.next();
        CHECK.due("the next hand", table.phase(), 0);
        table.deal();
        CHECK.due("dealt", table.phase(), 1);
    }

    private static void who() {
        CHECK.sentence("Whose turn it is (TURN), or whose tile is claimed (CLAIMS); BAD in another phase.");
        int[] want = {-1, 0, 0, -1, -1, 2, 1};
        for (int which = 0; which < Phases.MANY; which++) CHECK.due("who in phase " + which, Phases.at(which).who(), want[which]);
        RiichiTable table = Phases.at(Phases.CLAIMS);
        table.claim(1, 0, 0);
        CHECK.due("still whose tile it is", table.who(), 0);
        table = Phases.at(Phases.OVER);
        table.next();
        CHECK.due("before the deal", table.who(), -1);
    }

    private static void drawn() {
        CHECK.sentence("The kind that is drawn (TURN), or to which there are claims (CLAIMS); BAD when nothing is.");
        int[] want = {-1, k("1z"), k("5p"), -1, -1, -1, k("3s")};
        for (int which = 0; which < Phases.MANY; which++) CHECK.due("drawn in phase " + which, Phases.at(which).drawn(), want[which]);
        RiichiTable table = new Scene().hand(0, "234m 678m 345p 67s 99p").draws("5s").deal();
        table.win();
        CHECK.due("when it is won", table.drawn(), -1);
        table.next();
        CHECK.due("before the deal", table.drawn(), -1);
        // The first and the last kind, which is no BAD.
        CHECK.due("kind 0", new Scene().draws("1m").deal().drawn(), 0);
        CHECK.due("kind 33", new Scene().draws("7z").deal().drawn(), 33);
        // A replacement is drawn, too.
        table = new Scene().hand(0, "7777z 147m 258p 369s").draws("1z").replacements("2z").deal();
        table.quad(k("7z"));
        CHECK.due("replacement", table.drawn(), k("2z"));
    }

    private static void concealed() {
        CHECK.sentence("in phases 1 to 3; 0 when there are none, or p or kind isn't there.");
        // Who discards has one less; who called has laid down two; the maker of the added quad has ten.
        int[] sums = {0, 53, 52, 52, 0, 50, 49};
        for (int which = 0; which < Phases.MANY; which++) {
            RiichiTable table = Phases.at(which);
            int sum = 0;
            for (int p = 0; p < 4; p++) for (int kind = 0; kind < 34; kind++) sum += table.concealed(p, kind);
            CHECK.due("tiles in phase " + which, sum, sums[which]);
            for (int kind = 0; kind < 34; kind += 3) {
                for (int p : FAR) CHECK.due("player " + p, table.concealed(p, kind), 0);
                CHECK.due("player 4", table.concealed(4, kind), 0);
            }
            for (int p = 0; p < 4; p++) {
                for (int kind : FAR) CHECK.due("kind " + kind, table.concealed(p, kind), 0);
                CHECK.due("kind 34", table.concealed(p, 34), 0);
            }
        }
        RiichiTable table = new Scene().hand(0, "1111m 777z").hand(3, "7z 258p").draws("2z").deal();
        CHECK.due("first kind", table.concealed(0, 0), 4);
        CHECK.due("last kind", table.concealed(0, 33), 3);
        CHECK.due("last player", table.concealed(3, 33), 1);
        CHECK.due("none", table.concealed(1, 0), 0);
        table = Phases.at(Phases.OVER);
        table.next();
        CHECK.due("before the deal", table.concealed(2, k("5p")), 0);
    }

    private static void concealedWithDrawn() {
        CHECK.sentence("How many concealed tiles of a kind player p has (what is drawn included),");
        RiichiTable table = new Scene().hand(0, "11z 147m 258p 369s 34z").hand(1, QUIET).hand(2, QUIET).hand(3, "147m 258p 369s 34z").draws("1z 2z").deal();
        CHECK.due("with what is drawn", table.concealed(0, k("1z")), 3);
        table.discard(k("1z"), false);
        CHECK.due("discarded", table.concealed(0, k("1z")), 2);
        CHECK.due("drawn by the next", table.concealed(1, k("2z")), 1);
    }

    private static void meld() {
        CHECK.sentence("BAD when there is none (and in the phases 0 and 4).");
        for (int which = 0; which < Phases.MANY; which++) {
            RiichiTable table = Phases.at(which);
            for (int p = 0; p < 4; p++) {
                boolean there = which == Phases.CALLED && p == 2 || which == Phases.ADDED && p == 1;
                CHECK.due("first meld of " + p + " in phase " + which, table.meld(p, 0) != -1, there);
                for (int i : new int[] {1, 2, 3, 4, 5}) CHECK.due("meld " + i, table.meld(p, i), -1);
                for (int i : FAR) CHECK.due("meld " + i, table.meld(p, i), -1);
            }
            for (int p : FAR) CHECK.due("player " + p, table.meld(p, 0), -1);
            CHECK.due("player 4", table.meld(4, 0), -1);
        }
        // Four melds, and no fifth; they are told when it is over, too, but not before the next deal.
        HandScene scene = new HandScene(1, "5s", "t222m r456p c6666s a3333z", "5s", false);
        RiichiTable table = scene.play();
        int[] want = {4 * k("2m") + 1, 4 * k("4p"), 4 * k("6s") + 3, 4 * k("3z") + 2, -1};
        for (int i = 0; i < 5; i++) CHECK.due("meld " + i, table.meld(1, i), want[i]);
        table = new HandScene(1, "345s 3z", "t222m t444p t777z", "3z", false).play();
        table.discard(k("3z"), false);
        table.claim(1, 4, 0);
        Scene.pass(table);
        CHECK.due("over", table.phase(), 3);
        CHECK.due("melds when it is over", table.meld(1, 2), 4 * k("7z") + 1);
        table.next();
        CHECK.due("before the deal", table.meld(1, 0), -1);
        table.deal();
        CHECK.due("in the next hand", table.meld(1, 0), -1);
        meldWhenFinished();
    }

    private static void meldWhenFinished() {
        RiichiTable table = Scene.before(7);
        new Scene().hand(0, "7777z 147m 258p 369s").hand(1, "19m 19p 19s 1234566z").draws("5m 7s").replacements("3m").dealOn(table);
        table.quad(k("7z"));
        CHECK.due("a quad", table.meld(3, 0), 4 * k("7z") + 3);
        Scene.letGoDrawn(table, 69);
        CHECK.due("finished", table.phase(), 4);
        CHECK.due("no meld then", table.meld(3, 0), -1);
        CHECK.due("no river then", table.river(3, 0), -1);
    }

    private static void meldOrder() {
        CHECK.sentence("in the order in which they were made (an added quad stays at its triplet's place):");
        RiichiTable table = new HandScene(1, "345s 3z", "a4444p t222m c6666s", "3z", false).play();
        int[] want = {4 * k("4p") + 2, 4 * k("2m") + 1, 4 * k("6s") + 3, -1};
        for (int i = 0; i < 4; i++) CHECK.due("meld " + i, table.meld(1, i), want[i]);
        // The triplet is made first, then another one, and only then the quad is added to the first.
        table = new Scene().hand(0, "5z 6z 147m 258p 36s").hand(1, "55z 66z 37m 37p 39s 124z").hand(2, "147m 258p 369s 34z").hand(3, "147m 258p 369s 34z")
                .draws("7z 2z 2z 7z 2z 7z 7z 5z").replacements("3m").deal();
        table.discard(k("5z"), false);
        table.claim(1, 2, 0);
        Scene.letGo(table, k("1z"));
        Scene.letGoDrawn(table, 2);
        CHECK.due("who", table.who(), 0);
        table.discard(k("6z"), false);
        table.claim(1, 2, 0);
        Scene.letGo(table, k("4z"));
        Scene.letGoDrawn(table, 3);
        CHECK.due("who", table.who(), 1);
        CHECK.due("before it", table.meld(1, 0), 4 * k("5z") + 1);
        CHECK.due("added", table.quad(k("5z")), 1);
        CHECK.due("at its place", table.meld(1, 0), 4 * k("5z") + 2);
        CHECK.due("behind it", table.meld(1, 1), 4 * k("6z") + 1);
        CHECK.due("no third", table.meld(1, 2), -1);
    }

    private static void meldForms() {
        CHECK.sentence("4 * kind, plus 0 for a run, 1 for a triplet, 2 for an open quad, 3 for a closed quad;");
        // The least answer is a run of the first kind: 0.
        RiichiTable table = new Scene().hand(0, "1m").hand(1, "23m 159p 159s 345z").draws("1z").deal();
        table.discard(k("1m"), false);
        table.claim(1, 1, 0);
        Scene.pass(table);
        CHECK.due("run of kind 0", table.meld(1, 0), 0);
        table = new HandScene(1, "345m 678p 45s 99p", "c7777z", "6s", false).play();
        CHECK.due("closed quad of kind 33", table.meld(1, 0), 135);
        table = new HandScene(1, "345m 678p 45s 99p", "q7777z", "6s", false).play();
        CHECK.due("open quad of kind 33", table.meld(1, 0), 134);
        table = new HandScene(1, "345m 678p 45s 99p", "a7777z", "6s", false).play();
        CHECK.due("added quad of kind 33", table.meld(1, 0), 134);
        table = new HandScene(1, "345m 678p 45s 99p", "t777z", "6s", false).play();
        CHECK.due("triplet of kind 33", table.meld(1, 0), 133);
        table = new HandScene(1, "345m 678p 45s 99p", "r789s", "6s", false).play();
        CHECK.due("run of kind 24", table.meld(1, 0), 96);
    }

    private static void river() {
        CHECK.sentence("The kind of tile i that player p has discarded in this hand, those that were taken included;"
                + " BAD when there is none (and in the phases 0 and 4).");
        for (int which = 0; which < Phases.MANY; which++) {
            RiichiTable table = Phases.at(which);
            boolean any = Phases.phaseOf(which) == 2 || which == Phases.OVER || which == Phases.CALLED;
            CHECK.due("first tile of player 0 in phase " + which, table.river(0, 0), any ? which == Phases.ADDED ? k("3s") : k("5p") : -1);
            for (int p = 0; p < 4; p++) for (int i : FAR) CHECK.due("tile " + i, table.river(p, i), -1);
            for (int p : FAR) CHECK.due("player " + p, table.river(p, 0), -1);
            CHECK.due("player 4", table.river(4, 0), -1);
        }
        RiichiTable table = new Scene().deal();
        int[] kinds = new int[70];
        for (int turn = 0; turn < 70; turn++) {
            kinds[turn] = table.drawn();
            CHECK.due("not yet", table.river(turn % 4, turn / 4), -1);
            Scene.letGoDrawn(table, 1);
            CHECK.due("tile " + turn / 4 + " of " + turn % 4, table.river(turn % 4, turn / 4), kinds[turn]);
        }
        CHECK.due("the first, when it is over", table.river(0, 0), kinds[0]);
        CHECK.due("the last of player 1", table.river(1, 17), kinds[69]);
        CHECK.due("no more", table.river(1, 18), -1);
        CHECK.due("no more", table.river(2, 17), -1);
        table.next();
        CHECK.due("before the deal", table.river(0, 0), -1);
        table.deal();
        CHECK.due("in the next hand", table.river(0, 0), -1);
    }

    private static void riverOfTaken() {
        CHECK.sentence("those that were taken included;");
        RiichiTable table = Phases.at(Phases.CALLED);
        CHECK.due("taken", table.meld(2, 0), 4 * k("5p") + 1);
        CHECK.due("still told", table.river(0, 0), k("5p"));
        table = Phases.at(Phases.OVER);
        CHECK.due("won", table.river(0, 0), k("5p"));
        // The tile of an added quad is no discard.
        table = Phases.at(Phases.ADDED);
        CHECK.due("one discard of the maker", table.river(1, 0), k("5m"));
        CHECK.due("no second", table.river(1, 1), -1);
        table.claim(2, 4, 0);
        CHECK.due("nor when it is robbed", table.river(1, 1), -1);
    }
}
