/** The boundary cases of claims, and of promises 7 and 8. */
public final class EdgesOfClaimsTest {
    private static final Check CHECK = new Check();
    private static final int RUN = 2;
    private static final int TRIPLET = 4;
    private static final int QUAD = 8;
    private static final int WIN = 16;
    private static final String QUIET = "147m 258p 369s 345z";
    /** Ready for 5s and 8s, with yaku 8. */
    private static final String READY = "234m 678m 345p 67s 99p";

    public static void main(String[] args) {
        threeOthers();
        winComplete();
        winYaku();
        winNotFuriten();
        discardAtLeft();
        notInRiichi();
        tripletWithTwo();
        quadFewerThanFour();
        runBehind();
        runConcealed();
        anyOrder();
        onceEach();
        settled();
        allWhoWin();
        quadBeforeRun();
        nobodyTakes();
        takenTile();
        turnOfTaker();
        optionsAnswers();
        claimAnswers();
        claimIsBad();
        CHECK.end();
    }

    private static int k(String text) {
        return Scene.kind(text);
    }

    private static void options(String name, RiichiTable table, int... want) {
        for (int p = 0; p < 4; p++) CHECK.due(name + ": options of " + p, table.options(p), want[p]);
    }

    private static void threeOthers() {
        CHECK.sentence("CLAIMS to a discard, or to the tile of an added quad, by the three others.");
        for (int seat = 0; seat < 4; seat++) {
            // Who discards has three more of it; or is ready for it, and the others wait for it, too.
            Scene scene = new Scene().draws("1z 1z 1z 1z 2z");
            for (int p = 0; p < 4; p++) scene.hand(p, p == seat ? "7777z 258p 369s 22m" : "147m 258p 39s 34z");
            RiichiTable table = scene.deal();
            Scene.letGoDrawn(table, seat);
            CHECK.due("nobody's but one's own", table.discard(k("7z"), false), 1);

            scene = new Scene().draws("1z 1z 1z 1z 2z");
            String[] ready = {READY, "123m 567m 456p 67s 44z", "345m 789m 123p 67s 44z", "456m 789m 678p 67s 55p"};
            for (int p = 0; p < 4; p++) scene.hand(p, ready[p]);
            scene.put(52 + seat, "5s");
            table = scene.deal();
            Scene.letGoDrawn(table, seat);
            CHECK.due("ready for it", table.discard(k("5s"), false), 2);
            for (int p = 0; p < 4; p++) CHECK.due("win of " + p, table.options(p) & WIN, p == seat ? 0 : WIN);
            CHECK.due("not one's own", table.claim(seat, 4, 0), -1);
            CHECK.due("nor nothing", table.claim(seat, 0, 0), -1);
        }
        RiichiTable table = Phases.at(Phases.ADDED);
        options("added quad", table, 0, 0, WIN, 0);
        CHECK.due("not the maker", table.claim(1, 0, 0), -1);
    }

    /** Player 1 has this hand; player 0 discards what was drawn. */
    private static RiichiTable fed(String hand, String tile) {
        RiichiTable table = new Scene().hand(0, "19m 28p 19s 23z 7z").hand(1, hand).hand(2, "19m 1p 19s 2z").hand(3, "19m 1p 19s 2z")
                .draws(tile + "6z").indicators("1z", "1z").deal();
        table.discard(k(tile), false);
        return table;
    }

    private static void winComplete() {
        CHECK.sentence("WIN, if the tile makes p's hand complete,");
        for (int kind = 0; kind < 27; kind++) {
            boolean wait = kind == k("5s") || kind == k("8s");
            CHECK.due("win by " + kind, fed(READY, Scene.text(kind)).options(1) & WIN, wait ? WIN : 0);
        }
    }

    private static void winYaku() {
        CHECK.sentence("the best way is worth a yaku,");
        CHECK.due("two kinds", fed(READY, "5s").options(1) & WIN, WIN);
        CHECK.due("in the middle", fed("234m 678m 345p 46s 99p", "5s").options(1) & WIN, 0);
        CHECK.due("one way of two has a yaku", fed("234m 678m 345p 34s 55s", "5s").options(1) & WIN, WIN);
        // Dora are no yaku.
        RiichiTable table = new Scene().hand(1, "234m 678m 345p 46s 99p").draws("5s").indicators("8p", "8p").deal();
        table.discard(k("5s"), false);
        CHECK.due("dora alone", table.options(1) & WIN, 0);
    }

    private static void winNotFuriten() {
        CHECK.sentence("and p is not FURITEN;");
        for (String own : new String[] {"5s", "8s", "9s"}) {
            RiichiTable table = new Scene().hand(0, READY).hand(1, "8s 147m 258p 345z").hand(2, "258p 39s 345z").hand(3, "258p 39s 345z").draws(own + "1z").deal();
            Scene.letGo(table, k(own));
            table.discard(k("8s"), false);
            CHECK.due("own discard " + own, table.options(0) & WIN, own.equals("9s") ? WIN : 0);
        }
        for (int missed = 0; missed < 2; missed++) {
            RiichiTable table = new Scene().hand(0, READY).hand(1, "8s 147m 258p 345z").hand(2, "5s 258p 39s 345z").hand(3, QUIET).draws("1z 1z 2z 2z").deal();
            Scene.letGo(table, k("1z"));
            Scene.letGo(table, missed == 1 ? k("8s") : k("1z"));
            table.discard(k("5s"), false);
            CHECK.due("missed " + missed, table.options(0) & WIN, missed == 0 ? WIN : 0);
        }
    }

    /** At LEFT 1 player 0 has the turn, at LEFT 0 player 1. */
    private static void discardAtLeft() {
        CHECK.sentence("and for a discard, when LEFT is 1 or more and p is not in riichi:");
        for (int left = 0; left < 3; left++) {
            int seat = (69 - left) % 4;
            String[] hands = {"5p 147m 28p 369s 3457z", "46p 2222z 147m 369s 1z", "555p 147m 369s 346z 7z", "345m 678m 46p 678s 88s"};
            Scene scene = new Scene();
            for (int p = 0; p < 4; p++) scene.hand((seat + p) % 4, hands[p]);
            RiichiTable table = scene.spare("1111m 9999p").deal();
            Scene.letGoDrawn(table, 69 - left);
            CHECK.due("left", table.table(4), left);
            CHECK.due("who", table.who(), seat);
            table.discard(k("5p"), false);
            int[] want = {0, left > 0 ? RUN : 0, left > 0 ? TRIPLET + QUAD : 0, WIN};
            for (int p = 0; p < 4; p++) {
                int got = table.options((seat + p) % 4);
                CHECK.due("left " + left + ", seat " + p, p == 3 ? got & WIN : got & ~WIN, want[p]);
            }
        }
    }

    private static void notInRiichi() {
        CHECK.sentence("p is not in riichi: TRIPLET,");
        for (int riichi = 0; riichi < 2; riichi++) {
            RiichiTable table = new Scene().hand(0, "444p 56p 678m 88s 678s").hand(1, "147m 28p 36s 345z").hand(2, "147m 28p 36s 345z")
                    .hand(3, "4p 147m 28p 36s 35z").draws("1z 2z 2z 2z").deal();
            table.discard(k("1z"), riichi == 1);
            Scene.letGoDrawn(table, 2);
            table.discard(k("4p"), false);
            CHECK.due("riichi " + riichi, table.options(0), riichi == 1 ? WIN : RUN + TRIPLET + QUAD + WIN);
        }
    }

    private static void tripletWithTwo() {
        CHECK.sentence("TRIPLET, with two concealed tiles of the kind; QUAD, with three,");
        String[] hands = {"345z 147m 258p 369s", "7z 35z 147m 258p 369s", "77z 35z 147m 258p 36s", "777z 35z 147m 258p 3s"};
        int[] want = {0, 0, TRIPLET, TRIPLET + QUAD};
        for (int taker = 1; taker < 4; taker++) {
            for (int n = 0; n < 4; n++) {
                Scene scene = new Scene().hand(0, "7z").draws("1z 2z");
                for (int p = 1; p < 4; p++) scene.hand(p, p == taker ? hands[n] : hands[0]);
                RiichiTable table = scene.deal();
                CHECK.due("phase with " + n, table.discard(k("7z"), false), n < 2 ? 1 : 2);
                CHECK.due("options of " + taker + " with " + n, table.options(taker), want[n]);
                CHECK.due("triplet with " + n, table.claim(taker, 2, 0), n < 2 ? -1 : 1);
            }
        }
    }

    private static void quadFewerThanFour() {
        CHECK.sentence("QUAD, with three, when fewer than four quads are on the table;");
        for (int quads = 0; quads <= 4; quads++) {
            RiichiTable table = new Scene().hand(0, "1111m 3333p 5555s 7z").hand(1, "9999m 159p 269s 234z").hand(2, "888s 2568m 258p 16p 4z")
                    .hand(3, "258m 147p 36s 3z").draws("2z 8s 6z 6z 2z 2z").replacements("4z 4z 6z 6z").deal();
            String[] kinds = {"1m", "3p", "5s"};
            for (int i = 0; i < quads && i < 3; i++) table.quad(k(kinds[i]));
            Scene.letGo(table, k("7z"));
            if (quads == 4) table.quad(k("9m"));
            CHECK.due("quads", table.table(5), quads);
            table.discard(k("8s"), false);
            CHECK.due("options behind " + quads, table.options(2) & (TRIPLET + QUAD), quads < 4 ? TRIPLET + QUAD : TRIPLET);
            CHECK.due("quad behind " + quads, table.claim(2, 3, 0) > 0, quads < 4);
            CHECK.due("quads then", table.table(5), Math.min(4, quads + 1));
        }
    }

    private static void runBehind() {
        CHECK.sentence("RUN, for the player behind the one who discards,");
        for (int seat = 0; seat < 4; seat++) {
            Scene scene = new Scene().draws("1z 1z 1z 1z");
            for (int p = 0; p < 4; p++) scene.hand(p, p == seat ? "5p 19m 19s 234z" : "46p 19m 19s 234z");
            RiichiTable table = scene.deal();
            Scene.letGoDrawn(table, seat);
            table.discard(k("5p"), false);
            for (int p = 0; p < 4; p++) CHECK.due("run of " + p + " behind " + seat, table.options(p) & RUN, p == (seat + 1) % 4 ? RUN : 0);
            for (int p = 0; p < 4; p++) if (p != (seat + 1) % 4) CHECK.due("not " + p, table.claim(p, 1, k("4p")), -1);
            CHECK.due("run", table.claim((seat + 1) % 4, 1, k("4p")) > 0, true);
        }
    }

    private static void runConcealed() {
        CHECK.sentence("with the two others of it concealed.");
        String[] hands = {"34p", "46p", "67p", "33p", "36p", "37p", "47p", "4p", "6p"};
        for (int i = 0; i < hands.length; i++) {
            RiichiTable table = new Scene().hand(0, "5p").hand(1, hands[i] + "159m 159s 345z").put(13 + 11, "67z").hand(2, QUIET).hand(3, QUIET).draws("1z").deal();
            table.discard(k("5p"), false);
            CHECK.due("run with " + hands[i], table.options(1) & RUN, i < 3 ? RUN : 0);
        }
        // What lies in melds is not concealed: 4p of a triplet, beside a 6p in the hand.
        RiichiTable table = new HandScene(1, "6p 19m 258s 19s 13z", "t444p", "5p", false).play();
        table.discard(k("5p"), false);
        CHECK.due("run with 4p of a triplet", table.options(1) & RUN, 0);
        table = new HandScene(1, "46p 19m 258s 19s 1z", "t777z", "5p", false).play();
        table.discard(k("5p"), false);
        CHECK.due("run with 4p of the hand", table.options(1) & RUN, RUN);
    }

    /** Player 1 may take a run, player 2 a triplet, player 3 may win. */
    private static RiichiTable everybodyWants() {
        return Phases.at(Phases.CLAIMS);
    }

    private static void anyOrder() {
        CHECK.sentence("Those who have an option answer, in any order, once each;");
        int[][] orders = {{1, 2, 3}, {1, 3, 2}, {2, 1, 3}, {2, 3, 1}, {3, 1, 2}, {3, 2, 1}};
        for (int[] order : orders) {
            for (int winner = 0; winner < 2; winner++) {
                RiichiTable table = everybodyWants();
                int[] what = {0, 1, 2, winner == 1 ? 4 : 0};
                for (int i = 0; i < 3; i++) {
                    int p = order[i];
                    CHECK.due("asked", table.options(p) != 0, true);
                    CHECK.due("answer " + i, table.claim(p, what[p], k("4p")), i < 2 ? 2 : winner == 1 ? 3 : 1);
                    CHECK.due("answered", table.options(p), 0);
                }
                CHECK.due("triplet", table.meld(2, 0), winner == 1 ? -1 : 4 * k("5p") + 1);
                CHECK.due("who", table.who(), winner == 1 ? -1 : 2);
            }
        }
    }

    private static void onceEach() {
        CHECK.sentence("once each; when the last one has,");
        for (int first = 0; first < 3; first++) {
            RiichiTable table = everybodyWants();
            int what = first == 1 ? 0 : 2;
            CHECK.due("answer", table.claim(2, what, 0), 2);
            for (int again = 0; again < 5; again++) CHECK.due("again " + again, table.claim(2, again, k("5p")), -1);
            CHECK.due("others", table.claim(1, 0, 0), 2);
            CHECK.due("again", table.claim(1, 1, k("4p")), -1);
            CHECK.due("the last one", table.claim(3, 0, 0), 1);
            CHECK.due("the first answer counts", table.meld(2, 0), what == 0 ? -1 : 4 * k("5p") + 1);
            CHECK.due("settled", table.claim(3, 0, 0), -1);
        }
    }

    private static void settled() {
        CHECK.sentence("when the last one has, or nobody has an option, it is settled:");
        RiichiTable table = everybodyWants();
        table.claim(3, 4, 0);
        CHECK.due("not yet", table.phase(), 2);
        CHECK.due("nothing won yet", table.worth(3, 0), -1);
        table.claim(2, 0, 0);
        CHECK.due("not yet", table.phase(), 2);
        CHECK.due("nothing paid yet", table.points(3), 30000);
        table.claim(1, 0, 0);
        CHECK.due("settled", table.phase(), 3);
        CHECK.due("paid", table.points(3) > 30000, true);
        table = new Scene().hand(0, QUIET).hand(1, QUIET).hand(2, QUIET).hand(3, QUIET).draws("1z 2z").deal();
        CHECK.due("nobody", table.discard(k("1z"), false), 1);
        CHECK.due("settled at once", table.who(), 1);
    }

    private static void allWhoWin() {
        CHECK.sentence("if somebody wins, all those who win do;");
        for (int winners = 0; winners < 8; winners++) {
            RiichiTable table = new Scene().hand(0, "5p 1m 9m").hand(1, "345m 678m 34p 678s 88s").hand(2, "234m 678m 46p 345s 22s")
                    .hand(3, "567m 234s 67p 456s 77s").draws("1z 2z").indicators("1z", "").deal();
            table.discard(k("5p"), false);
            for (int p = 1; p < 4; p++) table.claim(p, (winners >> p - 1 & 1) != 0 ? 4 : 0, 0);
            CHECK.due("phase with winners " + winners, table.phase(), winners == 0 ? 1 : 3);
            for (int p = 1; p < 4; p++) {
                boolean won = (winners >> p - 1 & 1) != 0;
                CHECK.due(p + " of winners " + winners, table.yaku(p), won ? p == 2 ? Check.bits(24) : Check.bits(8, 24) : 0);
                CHECK.due("fu of " + p, table.worth(p, 1), won ? p == 2 ? 40 : 30 : -1);
                CHECK.due("points of " + p, table.points(p) > 30000, won);
            }
        }
        // Who wins goes before who takes: a run and a triplet come to nothing.
        RiichiTable table = everybodyWants();
        table.claim(1, 1, k("4p"));
        table.claim(2, 2, 0);
        table.claim(3, 4, 0);
        CHECK.due("no run", table.meld(1, 0), -1);
        CHECK.due("no triplet", table.meld(2, 0), -1);
        CHECK.due("tiles stay", table.concealed(2, k("5p")), 2);
    }

    private static void quadBeforeRun() {
        CHECK.sentence("else a quad, else a triplet, else a run that was answered is made;");
        for (int what = 0; what <= 3; what++) {
            for (int run = 0; run < 2; run++) {
                if (what == 1) continue;
                RiichiTable table = new Scene().hand(0, "5p 1m 9m").hand(1, "46p 159m 159s 345z 7z 6z").hand(2, "147m 28p 369s 345z")
                        .hand(3, "555p 147m 369s 346z 9m").draws("1z 2z").deal();
                table.discard(k("5p"), false);
                options("run and quad", table, 0, RUN, 0, TRIPLET + QUAD);
                table.claim(1, run, k("4p"));
                CHECK.due("answered", table.claim(3, what, 0), 1);
                String name = "run " + run + " against " + what;
                CHECK.due(name + " run", table.meld(1, 0), run == 1 && what == 0 ? 4 * k("4p") : -1);
                CHECK.due(name + " other", table.meld(3, 0), what == 0 ? -1 : 4 * k("5p") + what - 1);
                CHECK.due(name + " who", table.who(), what == 0 ? 1 : 3);
                CHECK.due(name + " concealed", table.concealed(3, k("5p")), what == 0 ? 3 : what == 2 ? 1 : 0);
                CHECK.due(name + " concealed", table.concealed(1, k("4p")), run == 1 && what == 0 ? 0 : 1);
            }
        }
    }

    private static void nobodyTakes() {
        CHECK.sentence("else nobody takes it.");
        RiichiTable table = everybodyWants();
        for (int p = 1; p < 4; p++) table.claim(p, 0, 0);
        CHECK.due("the next one draws", table.who(), 1);
        CHECK.due("drawn", table.drawn(), k("2z"));
        for (int p = 0; p < 4; p++) CHECK.due("no meld", table.meld(p, 0), -1);
        CHECK.due("it lies there", table.river(0, 0), k("5p"));
    }

    private static void takenTile() {
        CHECK.sentence("The tile that is taken is no more among the discards that lie there,"
                + " but stays one of the player's discards for FURITEN.");
        RiichiTable table = new Scene().hand(0, READY).hand(1, "55s 8s 147m 258p 3456z").hand(2, QUIET).hand(3, QUIET).draws("5s 7z 7z 7z").deal();
        table.discard(k("5s"), false);
        table.claim(1, 2, 0);
        CHECK.due("taken", table.meld(1, 0), 4 * k("5s") + 1);
        CHECK.due("furiten", table.furiten(0), true);
        table.discard(k("8s"), false);
        CHECK.due("the other wait", table.options(0) & WIN, 0);
        CHECK.due("still among those that were discarded", table.river(0, 0), k("5s"));
    }

    private static void turnOfTaker() {
        CHECK.sentence("Who takes a run or triplet has the next turn, with nothing drawn;"
                + " who takes a quad completes it, and has the turn with the replacement drawn.");
        for (int what = 1; what <= 3; what++) {
            RiichiTable table = new Scene().hand(0, "5p 1m 9m").hand(1, "4556p 5p 159m 159s 34z").hand(2, "147m 28p 369s 345z")
                    .hand(3, "147m 28p 369s 345z").draws("1z 2z").replacements("6z").deal();
            table.discard(k("5p"), false);
            CHECK.due("taken", table.claim(1, what, k("4p")), 1);
            CHECK.due("whose turn", table.who(), 1);
            CHECK.due("drawn", table.drawn(), what == 3 ? k("6z") : -1);
            CHECK.due("left", table.table(4), what == 3 ? 68 : 69);
            CHECK.due("quads", table.table(5), what == 3 ? 1 : 0);
            int sum = 0;
            for (int kind = 0; kind < 34; kind++) sum += table.concealed(1, kind);
            CHECK.due("concealed", sum, 11);
            Scene.letGo(table, k("1m"));
            CHECK.due("goes on behind", table.who(), 2);
        }
        // From any place at the table: player 3 is passed by, or players 2 and 3 are.
        for (int taker = 1; taker < 4; taker++) {
            Scene scene = new Scene().hand(0, "7z 1m 9m").draws("1z 2z");
            for (int p = 1; p < 4; p++) scene.hand(p, p == taker ? "77z 147m 258p 369s 35z" : QUIET);
            RiichiTable table = scene.deal();
            table.discard(k("7z"), false);
            table.claim(taker, 2, 0);
            CHECK.due("taker", table.who(), taker);
            Scene.letGo(table, k("5z"));
            CHECK.due("behind the taker", table.who(), (taker + 1) % 4);
            CHECK.due("drawn", table.drawn(), k("2z"));
        }
    }

    private static void optionsAnswers() {
        CHECK.sentence("The options that player p has and has not answered yet:"
                + " the sum of 2 for RUN, 4 for TRIPLET, 8 for QUAD, 16 for WIN; 0 when there are none, or the phase is not CLAIMS."
                + " BAD when p is not 0 .. 3.");
        for (int which = 0; which < Phases.MANY; which++) {
            RiichiTable table = Phases.at(which);
            for (int p = 0; p < 4; p++) {
                int want = which == Phases.CLAIMS ? new int[] {0, RUN, TRIPLET, WIN}[p] : which == Phases.ADDED && p == 2 ? WIN : 0;
                CHECK.due("options of " + p + " in phase " + which, table.options(p), want);
            }
            for (int p : new int[] {Integer.MIN_VALUE, -1, 4, Integer.MAX_VALUE}) CHECK.due("options of " + p, table.options(p), -1);
        }
        RiichiTable table = new Scene().hand(0, "4p").hand(1, "444p 56p 678m 88s 678s").hand(2, "147m 28p 36s 345z").hand(3, "147m 28p 36s 345z").draws("1z").deal();
        table.discard(k("4p"), false);
        CHECK.due("all four", table.options(1), 30);
        table.claim(1, 0, 0);
        CHECK.due("not answered yet: none", table.options(1), 0);
    }

    private static void claimAnswers() {
        CHECK.sentence("player p answers with 0 nothing, 1 RUN (named by kind low), 2 TRIPLET, 3 QUAD, 4 WIN. Answers the phase then;");
        int[] phases = {1, 1, 1, 1, 3};
        for (int what = 0; what < 5; what++) {
            RiichiTable table = new Scene().hand(0, "4p").hand(1, "444p 56p 678m 88s 678s").hand(2, "147m 28p 36s 345z").hand(3, "147m 28p 36s 345z").draws("1z").deal();
            table.discard(k("4p"), false);
            CHECK.due("claim of " + what, table.claim(1, what, k("4p")), phases[what]);
            CHECK.due("meld", table.meld(1, 0), what == 1 ? 4 * k("4p") : what == 2 ? 4 * k("4p") + 1 : what == 3 ? 4 * k("4p") + 2 : -1);
        }
        CHECK.due("others have not answered", everybodyWants().claim(1, 0, 0), 2);
        // low is for runs alone.
        for (int low : new int[] {Integer.MIN_VALUE, -1, 0, 34, Integer.MAX_VALUE}) {
            RiichiTable table = everybodyWants();
            CHECK.due("nothing", table.claim(1, 0, low), 2);
            CHECK.due("triplet", table.claim(2, 2, low), 2);
            CHECK.due("win", table.claim(3, 4, low), 3);
        }
        // The last hand of the game.
        RiichiTable table = Scene.before(7);
        new Scene().hand(0, "5p 1m 9m").hand(1, "345m 678m 34p 678s 88s").hand(2, QUIET).hand(3, QUIET).draws("1z 2z").dealOn(table);
        table.discard(k("5p"), false);
        CHECK.due("finished", table.claim(0, 4, 0), 4);
    }

    private static void claimIsBad() {
        CHECK.sentence("BAD when p has no options left, or not this one (for RUN: of this name).");
        for (int which = 0; which < Phases.MANY; which++) {
            for (int p = -1; p < 5; p++) {
                for (int what = -1; what < 6; what++) {
                    RiichiTable table = Phases.at(which);
                    int has = table.options(p);
                    boolean may = has > 0 && (what == 0 || what > 0 && what < 5 && (has >> what & 1) != 0);
                    CHECK.due("claim of " + p + ", " + what + " in phase " + which, table.claim(p, what, k("4p")) > 0, may);
                    if (!may) CHECK.due("still has options", table.options(p), has);
                }
            }
        }
        for (int what : new int[] {Integer.MIN_VALUE, Integer.MAX_VALUE, 32, 36}) CHECK.due("answer " + what, everybodyWants().claim(3, what, 0), -1);
        for (int low = -2; low < 37; low++) {
            RiichiTable table = new Scene().hand(0, "5p").hand(1, "234678p 123m 159s 7z").draws("1z").deal();
            table.discard(k("5p"), false);
            for (int p = 2; p < 4; p++) table.claim(p, 0, 0);
            boolean run = low == k("3p") || low == k("4p") || low == k("5p");
            CHECK.due("run of " + low, table.claim(1, 1, low) > 0, run);
        }
        for (int low : new int[] {Integer.MIN_VALUE, Integer.MAX_VALUE, Integer.MAX_VALUE - 1}) {
            CHECK.due("run of " + low, everybodyWants().claim(1, 1, low), -1);
        }
        CHECK.due("a run whose others are not there", everybodyWants().claim(1, 1, k("3p")), -1);
        CHECK.due("a run whose others are not there", everybodyWants().claim(1, 1, k("5p")), -1);
    }
}
