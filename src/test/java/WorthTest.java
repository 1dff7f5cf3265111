/**
 * Promises 6, 8, 20 and 21: what hands are worth. The seat wind of seat 0 is
 * 1z, of seat 1 it is 2z; the round wind is 1z.
 */
public final class WorthTest {
    private static final int[] NONE = {};
    private static final Check CHECK = new Check();

    private static void row(int seat, String hand, String melds, String last, boolean byDraw, int[] yaku, int... what) {
        HandScene.row(CHECK, seat, hand, melds, last, byDraw, yaku, what);
    }

    private static void drawn(String hand, String melds, String last, int[] yaku, int... what) {
        row(1, hand, melds, last, true, yaku, what);
    }

    private static void taken(String hand, String melds, String last, int[] yaku, int... what) {
        row(1, hand, melds, last, false, yaku, what);
    }

    private static int[] y(int... yaku) {
        return yaku;
    }

    public static void main(String[] args) {
        runs();
        triplets();
        ofAllTiles();
        limits();
        readings();
        dealers();
        CHECK.end();
    }

    private static void runs() {
        drawn("123m 456p 555s 78p 99m", "", "9p", y(3), 1, 30, 240, 1100);
        taken("123m 456p 555s 78p 99m", "", "9p", NONE);
        drawn("234m 678m 345p 67s 99p", "", "5s", y(3, 8), 2, 20, 320, 1500);
        taken("234m 678m 345p 67s 99p", "", "5s", y(8), 1, 30, 240, 1000);
        taken("234m 678m 345p 67s 99p", "", "8s", y(8), 1, 30, 240, 1000);
        taken("234m 678m 345p 89s 99p", "", "7s", NONE);
        drawn("234m 678m 345p 89s 99p", "", "7s", y(3), 1, 30, 240, 1100);
        taken("234m 678m 345p 12s 99p", "", "3s", NONE);
        drawn("234m 678m 345p 12s 99p", "", "3s", y(3), 1, 30, 240, 1100);
        taken("234m 678m 345p 23s 99p", "", "1s", y(8), 1, 30, 240, 1000);
        taken("234m 678m 345p 78s 99p", "", "9s", y(8), 1, 30, 240, 1000);
        taken("234m 678m 345p 23s 99p", "", "4s", y(8), 1, 30, 240, 1000);
        taken("234m 678m 345p 46s 99p", "", "5s", NONE);
        taken("234m 678m 345p 567s 9p", "", "9p", NONE);
        drawn("234m 678m 345p 67s 22z", "", "5s", y(3), 1, 30, 240, 1100);
        drawn("234m 678m 345p 67s 11z", "", "5s", y(3), 1, 30, 240, 1100);
        drawn("234m 678m 345p 67s 33z", "", "5s", y(3, 8), 2, 20, 320, 1500);
        drawn("234m 678m 345p 67s 55z", "", "5s", y(3), 1, 30, 240, 1100);
        taken("678m 345p 67s 99p", "r234m", "5s", NONE);
        taken("223344m 678p 46s 99p", "", "5s", y(9), 1, 40, 320, 1300);
        taken("234m 678p 46s 99p", "r234m", "5s", NONE);
        taken("223344m 667788p 9s", "", "9s", y(27), 3, 40, 1280, 5200);
        taken("222233334444m 9s", "", "9s", y(27), 3, 40, 1280, 5200);
        taken("345m 345p 35s 789m 33z", "", "4s", y(15), 2, 40, 640, 2600);
        taken("345p 35s 789m 33z", "r345m", "4s", y(15), 1, 30, 240, 1000);
        taken("123456789m 46p 33z", "", "5p", y(16), 2, 40, 640, 2600);
        taken("123789m 46p 33z", "r456m", "5p", y(16), 1, 30, 240, 1000);
        taken("123456789p 46m 33z", "", "5m", y(16), 2, 40, 640, 2600);
        taken("123456789s 46p 33z", "", "5p", y(16), 2, 40, 640, 2600);
        taken("123m 456p 789m 46s 33z", "", "5s", NONE);
        taken("123m 789p 999s 13s 33z", "", "2s", y(17), 2, 40, 640, 2600);
        taken("123m 789p 13s 33z", "t999s", "2s", y(17), 1, 30, 240, 1000);
        taken("123m 789p 999s 13s 11z", "", "2s", y(17), 2, 50, 800, 3200);
        taken("123m 789p 111z 13s 99m", "", "2s", y(11, 17), 3, 40, 1280, 5200);
        taken("123m 789p 444z 13s 99m", "", "2s", y(17), 2, 40, 640, 2600);
        taken("123m 789p 999s 13s 11p", "", "2s", y(18), 3, 40, 1280, 5200);
        taken("123m 789p 13s 11p", "t999s", "2s", y(18), 2, 30, 480, 2000);
        taken("123m 789p 999s 24s 11p", "", "3s", NONE);
        taken("123m 789p 999s 13s 22p", "", "2s", NONE);
        taken("567p 45s 88s 345m", "r234m", "6s", y(24), 1, 30, 240, 1000);
        drawn("567p 45s 88s 345m", "r234m", "6s", y(24), 1, 30, 240, 1100);
    }

    private static void triplets() {
        taken("222z 345m 678p 45s 99p", "", "6s", y(10), 1, 40, 320, 1300);
        taken("111z 345m 678p 45s 99p", "", "6s", y(11), 1, 40, 320, 1300);
        taken("333z 345m 678p 45s 99p", "", "6s", NONE);
        taken("555z 345m 678p 45s 99p", "", "6s", y(12), 1, 40, 320, 1300);
        taken("666z 345m 678p 45s 99p", "", "6s", y(13), 1, 40, 320, 1300);
        taken("777z 345m 678p 45s 99p", "", "6s", y(14), 1, 40, 320, 1300);
        taken("345m 678p 45s 99p", "t777z", "6s", y(14), 1, 30, 240, 1000);
        taken("345m 678p 45s 99p", "t222z", "6s", y(10), 1, 30, 240, 1000);
        taken("345m 678p 45s 99p", "t111z", "6s", y(11), 1, 30, 240, 1000);
        taken("345m 678p 45s 99p", "q7777z", "6s", y(14), 1, 40, 320, 1300);
        taken("345m 678p 45s 99p", "a7777z", "6s", y(14), 1, 40, 320, 1300);
        taken("345m 678p 45s 99p", "c7777z", "6s", y(14), 1, 70, 560, 2300);
        taken("666s 99p 33z", "t222m t444p", "9p", y(19), 2, 40, 640, 2600);
        taken("222m 444p 777p 35s 33z", "", "4s", y(20), 2, 50, 800, 3200);
        taken("222m 444p 77p 345s 33z", "", "7p", NONE);
        drawn("222m 444p 77p 345s 33z", "", "7p", y(3, 20), 3, 40, 1280, 5200);
        taken("222m 444p 35s 33z", "c7777p", "4s", y(20), 2, 60, 960, 3900);
        taken("44p 345s 33z", "c2222m c7777p", "4p", NONE);
        taken("345s 3z", "c2222m a4444p q6666s", "3z", y(21), 2, 60, 960, 3900);
        taken("345s 3z", "c2222m c4444p c6666s", "3z", y(20, 21), 4, 80, 2000, 8000);
        taken("5s", "t222m t444p t666s a3333z", "5s", y(19), 2, 50, 800, 3200);
        taken("333m 333p 33s 678m 99p", "", "3s", y(22), 2, 40, 640, 2600);
        taken("33s 678m 99p", "t333m t333p", "3s", y(22), 2, 30, 480, 2000);
        taken("333m 333p 44s 678m 99p", "", "4s", NONE);
        taken("555z 666z 77z 345m 67p", "", "8p", y(12, 13, 23), 4, 50, 2000, 8000);
        taken("77z 345m 67p", "t555z t666z", "8p", y(12, 13, 23), 4, 30, 1920, 7700);
    }

    private static void ofAllTiles() {
        taken("999s 11z 33z", "t111m t999p", "3z", y(19, 25), 4, 50, 2000, 8000);
        taken("1199m 1199p 1199s 1z", "", "1z", y(25, 26), 4, 25, 1600, 6400);
        taken("1144m 2277p 3355s 6z", "", "6z", y(26), 2, 25, 400, 1600);
        drawn("1144m 2277p 3355s 6z", "", "6z", y(3, 26), 3, 25, 800, 3200);
        taken("2244m 2277p 3355s 6s", "", "6s", y(24, 26), 3, 25, 800, 3200);
        taken("234345m 68m 333z 99m", "", "7m", y(28), 3, 40, 1280, 5200);
        taken("234345m 68m 99m", "t333z", "7m", y(28), 2, 30, 480, 2000);
        taken("234345m 68m 111m 99m", "", "7m", y(29), 6, 40, 3000, 12000);
        taken("234345m 68m 99m", "t111m", "7m", y(29), 5, 30, 2000, 8000);
        taken("1122m 4466m 88m 33z 5z", "", "5z", y(26, 28), 5, 25, 2000, 8000);
        taken("1122m 4466m 8899m 5m", "", "5m", y(26, 29), 8, 25, 4000, 16000);
        taken("2233445566778m", "", "8m", y(8, 24, 27, 29), 11, 30, 6000, 24000);
        taken("1123456788999m", "", "8m", y(29), 6, 40, 3000, 12000);
        taken("1112234567899m", "", "2m", y(29), 6, 40, 3000, 12000);
    }

    private static void limits() {
        taken("19m 19p 19s 1234567z", "", "1m", y(30), 13, 30, 8000, 32000);
        drawn("119m 19p 19s 123456z", "", "7z", y(30), 13, 30, 8000, 32000);
        taken("1112345678999m", "", "5m", y(31), 13, 50, 8000, 32000);
        taken("1112345678999s", "", "9s", y(31), 13, 40, 8000, 32000);
        drawn("222m 444p 777s 33z 55s", "", "3z", y(32), 13, 50, 8000, 32000);
        taken("222m 444p 777s 33z 55s", "", "3z", y(19, 20), 4, 50, 2000, 8000);
        taken("222m 444p 777s 333z 5s", "", "5s", y(32), 13, 60, 8000, 32000);
        taken("222m 777s 5s 333z", "c4444p", "5s", y(32), 13, 70, 8000, 32000);
        taken("5s", "c2222m q4444p a6666s c3333z", "5s", y(33), 13, 90, 8000, 32000);
        taken("555z 666z 77z 345m 99p", "", "7z", y(34), 13, 50, 8000, 32000);
        taken("345m 9p", "t555z q6666z t777z", "9p", y(34), 13, 50, 8000, 32000);
        taken("111z 222z 33z 44z 345m", "", "3z", y(35), 13, 50, 8000, 32000);
        taken("111z 222z 333z 44z 55m", "", "4z", y(36), 13, 60, 8000, 32000);
        taken("112233445566z 7z", "", "7z", y(37), 13, 25, 8000, 32000);
        taken("111z 222z 555z 66z 77z", "", "6z", y(37), 13, 60, 8000, 32000);
        taken("111m 999m 111p 99p 99s", "", "9s", y(38), 13, 60, 8000, 32000);
        taken("234234s 666s 88s 66z", "", "8s", y(39), 13, 40, 8000, 32000);
        taken("234s 88s 66s", "r234s t666z", "6s", y(39), 13, 30, 8000, 32000);
        drawn("777z 66z 222z 11z 333z", "", "1z", y(32, 37), 13, 60, 8000, 32000);
    }

    private static void readings() {
        // Neither do runs go from suit to suit, nor are there runs of honours.
        drawn("89m 1p 345p 567s 123s 5z", "", "5z", NONE);
        drawn("12z 345m 678p 456s 99p", "", "3z", NONE);
        // 123 three times and 111 222 333: the runs are worth more.
        taken("111222333m 78s 99p", "", "9s", y(8, 9, 18), 5, 30, 2000, 8000);
        // The same tiles with an inner pair: three closed triplets are worth more.
        taken("111222333m 79s 55p", "", "8s", y(20), 2, 50, 800, 3200);
        // The last tile ends 567 or is the middle of 678: only the first has yaku 8.
        drawn("234m 345p 56678s 66p", "", "7s", y(3, 8, 24), 3, 20, 640, 2700);
        // In the pair it has 2 fu more, but in the run it has yaku 8.
        taken("234m 345p 3456s 678s", "", "6s", y(8, 24), 2, 30, 480, 2000);
        // No yaku hangs on it: in the pair it has 2 fu more.
        drawn("999m 345p 345m 4566s", "", "6s", y(3), 1, 40, 320, 1500);
        // The last tile in the run leaves the triplet closed.
        taken("22234m 222p 222s 99p", "", "2m", y(20, 22), 4, 50, 2000, 8000);
    }

    private static void dealers() {
        row(0, "111z 345m 678p 45s 99p", "", "6s", false, y(10, 11), 2, 40, 640, 3900);
        row(0, "111z 345m 678p 45s 99p", "", "6s", true, y(3, 10, 11), 3, 30, 960, 6000);
        row(0, "234m 678m 345p 67s 99p", "", "5s", true, y(3, 8), 2, 20, 320, 2100);
        row(0, "555s 234m 678m 45p 11z", "", "6p", true, y(3), 1, 30, 240, 1500);
        row(1, "555s 234m 678m 46p 11z", "", "5p", true, y(3), 1, 30, 240, 1100);
        row(1, "555s 234m 678m 46p 22z", "", "5p", true, y(3), 1, 30, 240, 1100);
        row(1, "555s 234m 678m 46p 77z", "", "5p", true, y(3), 1, 30, 240, 1100);
        row(1, "555s 234m 678m 46p 33z", "", "5p", true, y(3), 1, 30, 240, 1100);
        row(0, "345m 678p 45s 11z", "t555z", "6s", false, y(12), 1, 30, 240, 1500);
        row(2, "333z 345m 678p 45s 99p", "", "6s", false, y(10), 1, 40, 320, 1300);
        row(3, "444z 345m 678p 45s 99p", "", "6s", false, y(10), 1, 40, 320, 1300);
    }
}
