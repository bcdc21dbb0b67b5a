/** Each promise with answers reckoned by hand: ordinary inputs, the edges, and wrong inputs. */
public final class PromisesTest {
    private static final int NONE = -1, BAD = -2, STATE = -3, FULL = -4, NEVER = -5;
    private static final long NO = Long.MIN_VALUE;
    private static final Check CHECK = new Check("PromisesTest");

    private PromisesTest() {
    }

    private static void due(String call, long got, long want) {
        CHECK.due(call, got, want);
    }

    private static void feedAll(StarchedCollars x, String s) {
        for (int i = 0; i < s.length(); i++) {
            due("feed " + i + " of " + s, x.feed(s.charAt(i)), i + 1);
        }
    }

    private static int townOf(StarchedCollars x, String s) {
        feedAll(x, s);
        return x.town();
    }

    private static void townIs(String s, int want) {
        due("town of '" + s + "'", townOf(new StarchedCollars(), s), want);
    }

    private static StarchedCollars inTown(String s) {
        StarchedCollars x = new StarchedCollars();
        due("town of " + s, townOf(x, s), 0);
        return x;
    }

    private static void promise1() {
        StarchedCollars x = new StarchedCollars();
        for (int what = 0; what <= 6; what++) {
            due("1: count", x.count(what), 0);
        }
        due("1: of", x.of(0, 0), -999999);
        due("1: burst", x.told(1), 90);
        due("1: week", x.told(0), 0);
    }

    private static void promise2() {
        StarchedCollars x = new StarchedCollars();
        due("2: feed(-1)", x.feed(-1), BAD);
        due("2: feed(128)", x.feed(128), BAD);
        due("2: feed(MIN)", x.feed(Integer.MIN_VALUE), BAD);
        for (int i = 1; i <= 100; i++) {
            due("2: feed", x.feed(i % 2 == 0 ? 0 : 127), i);
        }
        due("2: feed, full", x.feed(5), FULL);
        due("2: feed, bad and full", x.feed(128), BAD);
        due("2: signs", x.count(5), 100);
    }

    private static void promise3() {
        townIs("", -10);
        townIs("burst 0", 0);
        townIs("burst 99", 0);
        townIs("burst 00", -17);
        townIs("burst 100", -18);
        townIs("burst  1", -16);
        townIs(" burst 1", -10);
        townIs("burst 1 ", -17);
        townIs("burst 1;", -18);
        townIs("burst 1;;", -18);
        townIs(";", -10);
        townIs("Burst 1", -10);
        townIs("bturst 1", -11);
        townIs("s", -11);
        townIs("sa", -11);
        townIs("stiff", -12);
        townIs("starch", -16);
        townIs("starch ", -17);
        townIs("starch 7", -18);
        townIs("starch 7 ", -19);
        townIs("starch 7;", -18);
        townIs("st7 k=6", -12);
        townIs("starch7 k=6", -16);
        townIs("so7 k=6", -12);
        townIs("b7", -11);
        townIs("burst7", -15);
        townIs("soften 7 k", -20);
        townIs("soften 7 k=", -21);
        townIs("soften 7 k=6", 0);
        townIs("soften 7 k=66", 0);
        townIs("soften 7 k=666", -23);
        townIs("soften 7 k=06", -22);
        townIs("soften 7 q=6", -19);
        townIs("soften 7 k!6", -20);
        townIs("soften 7 k==6", -21);
        townIs("soften 7 k=6 ", -22);
        townIs("soften 7 k=6)", -22);
        townIs("soften 7 (k=6", -23);
        townIs("soften 7 (k=6;", -23);
        townIs("soften 7 ()", -20);
        townIs("soften 7 (k=6)", 0);
        townIs("soften 7 (k=6)&(v<1|!c>2)", 0);
        townIs("soften 7 k=6&", -23);
        townIs("soften 7 k=6|", -23);
        townIs("soften 7 k=6||v=1", -23);
        townIs("soften 7 |k=6", -19);
        openOnes();
        manyTowns();
        newestTown();
    }

    private static void openOnes() {
        townIs("starch 1 !!!!!p=1", 0);
        townIs("starch 1 !!!!!!p=1", -24);
        townIs("starch 1 (((((p=1)))))", 0);
        townIs("starch 1 ((((((p=1))))))", -24);
        townIs("starch 1 !(!(!p=1))", 0);
        townIs("starch 1 !(!(!(p=1)))", -24);
        townIs("starch 1 (!!!!p=1&!!!!p=1|!!!!(", -40);
        townIs("starch 1 !!!!!p=1|!!!!!p=1&!!!!!p=1", 0);
        townIs("starch 1 ((((p=1))))&(((((p=1)))))", 0);
        townIs("starch 1 ((((!p=1&!p=1|(v=1))))|p=1)", 0);
    }

    private static void manyTowns() {
        townIs("burst 1;burst 1;burst 1;burst 1;burst 1;burst 1;burst 1;burst 1;burst 1;burst 1", 0);
        townIs("burst 1;burst 1;burst 1;burst 1;burst 1;burst 1;burst 1;burst 1;burst 1;burst 1;", -89);
        townIs("burst 1;burst 1;burst 1;burst 1;burst 1;burst 1;burst 1;burst 1;burst 1;burst 1;burst 1", -89);
        StarchedCollars x = new StarchedCollars();
        for (int i = 0; i < 5; i++) {
            due("3: fault", townOf(x, "x"), -10);
            due("3: tape after fault", x.count(5), 0);
            due("3: town", townOf(x, "burst 5" + i), i);
            due("3: burst", x.told(1), 50 + i);
            due("3: tape after town", x.count(5), 0);
        }
        feedAll(x, "x");
        due("3: full", x.town(), FULL);
        due("3: tape stays", x.count(5), 1);
        due("3: towns", x.count(1), 5);
        due("3: burst stays", x.told(1), 54);
        StarchedCollars y = inTown("burst 20;starch 1 p=0;burst 30");
        due("3: the last burst", y.told(1), 30);
        due("3: a fault", townOf(y, "burst 40;"), -19);
        due("3: the one that held holds", y.told(1), 30);
        due("3: no burst in the newest", townOf(y, "starch 1 p=0"), 1);
        due("3: 90 without", y.told(1), 90);
    }

    private static void newestTown() {
        StarchedCollars x = inTown("starch 1 p=0;starch 2 p=0&!p=1;starch 4 p=0;burst 33");
        x.man(0, 0, 0, 0);
        due("3: rise", x.of(0, 7), 10);
        due("3: a fault behind clauses", townOf(x, "starch 50 p=0;starch 20 p"), -35);
        due("3: rise as before", x.of(0, 7), 10);
        due("3: another town", townOf(x, "soften 1 p=1|p=0"), 1);
        due("3: its rise alone", x.of(0, 7), 2);
        due("3: its burst", x.told(1), 90);
        due("3: no clauses but burst", townOf(x, "burst 7"), 2);
        due("3: 3 alone", x.of(0, 7), 3);
        due("3: below 0 never holds", townOf(x, "starch 9 p<0;starch 20 p=0&p<0|p<0"), 3);
        due("3: 3 alone, too", x.of(0, 7), 3);
        due("3: all of 99 signs", townOf(x, "starch 9 p=0;starch 9 p=0;starch 9 p=0;starch 9 p=0;starch 9 p=0;"
            + "starch 9 p=0;soften 9 p=0&p=0"), 4);
        due("3: their rise", x.of(0, 7), 48);
    }

    private static void promise4() {
        StarchedCollars x = new StarchedCollars();
        due("4: kind -1", x.man(-1, 10, 0, 0), NONE);
        due("4: kind 7", x.man(7, 0, 0, 0), NONE);
        due("4: place -1", x.man(0, 0, -1, 256), NONE);
        due("4: place 10", x.man(0, 0, 10, 0), NONE);
        due("4: v -1", x.man(0, -1, 0, 0), BAD);
        due("4: v 10", x.man(0, 10, 0, 0), BAD);
        due("4: creed -1", x.man(0, 0, 0, -1), BAD);
        due("4: creed 256", x.man(0, 0, 0, 256), BAD);
        due("4: none yet", x.count(0), 0);
        for (int i = 0; i < 6; i++) {
            due("4: man", x.man(i + 1, 9 - i, i + 4, 255 - i), i);
        }
        due("4: full", x.man(0, 0, 0, 0), FULL);
        due("4: none ahead of full", x.man(7, 0, 0, 0), NONE);
        due("4: bad ahead of full", x.man(0, 10, 0, 0), BAD);
        due("4: six", x.count(0), 6);
    }

    private static void promise5() {
        StarchedCollars x = inTown("starch 10 k=1|k=4;soften 8 k=2|k=5;soften 4 h>8&p=0;starch 20 w=1&!c>0");
        int[] rises = {3, 15, -2, 6, 16, -2 - 7, 3 + 2 + 6 - 4};
        for (int kind = 0; kind <= 6; kind++) {
            StarchedCollars y = inTown("starch 10 k=1|k=4;soften 8 k=2|k=5");
            y.man(kind, kind == 5 ? 7 : kind == 1 ? 2 : 3, 0, kind == 3 ? 7 : 3);
            y.row(0, 0, 6);
            due("5: rise of kind " + kind, y.of(0, 7), rises[kind]);
        }
        due("5: man", x.man(4, 6, 7, 9), 0);
        int[] first = {4, 6, 7, 9, 0, 0, 0, 19, 0, 0};
        for (int what = 0; what < 10; what++) {
            due("5: of " + what, x.of(0, what), first[what]);
        }
        x.set(0, 2, 59);
        due("5: elder at 59", x.of(0, 7), 19);
        x.set(0, 2, 60);
        due("5: elder at 60", x.of(0, 7), 0);
        x.stud(0, true);
        x.away(0, true);
        due("5: gone", x.of(0, 5), 1);
        due("5: away", x.of(0, 6), 1);
        due("5: what -1", x.of(0, -1), -999999);
        due("5: what 10", x.of(0, 10), -999999);
        due("5: man 1", x.of(1, 0), -999999);
        due("5: man -1", x.of(-1, 0), -999999);
        due("5: man with nothing", x.man(0, 0, 0, 0), 1);
        due("5: week 0", x.of(1, 7), 3);
        x.pass(1);
        due("5: week 1", x.of(1, 7), 23);
        x.pass(10);
        due("5: week 11", x.of(1, 7), 23);
        tests();
        heightsByTen();
        sees();
    }

    /** Each test with each sign. */
    private static void tests() {
        String[] are = {"p=1", "k=2", "v=7", "c=3", "h=4", "w=5"};
        for (String is : are) {
            int n = is.charAt(2) - '0';
            String what = is.substring(0, 1);
            String[] so = {is, what + "<" + (n + 1), what + ">" + (n - 1), what + "<99"};
            String[] notSo = {what + "=" + (n + 1), what + "<" + n, what + ">" + n, what + "=" + n + "0", "!" + is};
            for (String s : so) {
                due("5: " + s, riseIn("starch 40 " + s), 21);
            }
            for (String s : notSo) {
                due("5: " + s, riseIn("starch 40 " + s), 1);
            }
        }
        due("5: & ahead of |", riseIn("starch 40 p=1|p=0&p=0"), 21);
        due("5: & ahead of |, too", riseIn("starch 40 p=0&p=0|p=1"), 21);
        due("5: brackets", riseIn("starch 40 (p=1|p=0)&p=0"), 1);
        due("5: ! of brackets", riseIn("starch 40 !(p=1&p=0)"), 21);
        due("5: ! of its F alone", riseIn("starch 40 !p=0&p=0"), 1);
        due("5: both", riseIn("starch 40 p=1&k=2&v=7"), 21);
        due("5: a bracket behind &", riseIn("starch 40 p=1&(k=2)"), 21);
        due("5: a bracket behind |", riseIn("starch 40 p=1|(k=2&(p=0))"), 21);
        due("5: & in a bracket behind |", riseIn("starch 40 p=0|(k=2&(p=1|p=0)&v=7)"), 21);
        due("5: brackets by brackets", riseIn("starch 40 (p=1)&(k=3|v=7)&!(c=3&(h=5|w=6))"), 21);
        due("5: many", riseIn("starch 40 p=1;soften 20 k=2;starch 30 p=0;soften 1 v=7"), 11);
        due("5: cut toward 0", riseIn("soften 4 p=1"), 0);
        due("5: cut toward 0, below", riseIn("soften 6 p=1"), -1);
    }

    /** RISE of a Unitarian with v 7, three articles, height 49, in week 5, who is man 1. */
    private static int riseIn(String town) {
        StarchedCollars x = inTown("burst 99");
        x.man(0, 0, 0, 0);
        x.man(2, 7, 0, 7);
        x.away(1, true);
        x.pass(5);
        x.set(1, 2, 49);
        townOf(x, town);
        return x.of(1, 7);
    }

    private static void heightsByTen() {
        StarchedCollars x = inTown("burst 99;starch 5 h=9;starch 7 h=8;starch 50 h=5");
        x.man(0, 0, 0, 0);
        int[] heights = {0, 49, 50, 59, 60, 79, 80, 89, 90, 99};
        int[] rises = {3, 3, 53, 53, 3, 3, 10, 10, 8, 8};
        for (int i = 0; i < heights.length; i++) {
            x.set(0, 2, heights[i]);
            due("5: rise at " + heights[i], x.of(0, 7), rises[i]);
        }
    }

    private static void sees() {
        StarchedCollars x = new StarchedCollars();
        int[] places = {0, 3, 3, 6, 9, 9};
        for (int place : places) {
            x.man(0, 0, place, 0);
        }
        due("5: sees all", x.of(0, 8), 62);
        x.set(0, 2, 9);
        due("5: reach 9", x.of(0, 8), 62);
        x.set(0, 2, 10);
        due("5: reach 8", x.of(0, 8), 14);
        x.set(0, 2, 69);
        due("5: reach 3", x.of(0, 8), 6);
        due("5: bench", x.of(0, 9), 6);
        x.set(0, 2, 70);
        due("5: reach 2", x.of(0, 8), 0);
        due("5: bench of several, the first", x.of(0, 9), 4);
        x.set(1, 2, 99);
        due("5: reach 0 sees its own place", x.of(1, 8), 4);
        x.set(1, 0, 5);
        x.set(0, 0, 1);
        due("5: bench at 9", x.of(1, 9), 9);
        x.set(4, 0, 1);
        due("5: bench at 1", x.of(1, 9), 1);
        x.set(0, 0, 0);
        x.set(1, 0, 3);
        x.set(4, 0, 9);
        due("5: bench of reach 0", x.of(1, 9), 9);
        x.away(5, true);
        due("5: bench, without the one away", x.of(1, 9), 0);
        x.away(2, true);
        due("5: does not see one away", x.of(1, 8), 0);
        due("5: one away sees none", x.of(2, 8), 0);
        due("5: bench of one away", x.of(2, 9), 0);
        x.stud(3, true);
        due("5: one whose stud is gone is seen", x.of(0, 9), 4);
    }

    private static void promise6() {
        StarchedCollars x = new StarchedCollars();
        x.man(6, 0, 0, 0);
        x.man(3, 0, 0, 0);
        for (int k = 0; k < 4; k++) {
            due("6: row", x.row(0, k, 9 - k), 0);
        }
        for (int k = 0; k < 4; k++) {
            due("6: week " + k, x.of(0, 7), 3 + 9 - k - 4);
            x.pass(1);
        }
        due("6: week 4", x.of(0, 7), 8);
        due("6: was", x.row(0, 1, 0), 8);
        due("6: was then", x.row(0, 1, 5), 0);
        due("6: k -1", x.row(0, -1, 10), NONE);
        due("6: k 4", x.row(0, 4, 0), NONE);
        due("6: man 2", x.row(2, 0, 0), NONE);
        due("6: k ahead of kind", x.row(1, 4, 0), NONE);
        due("6: n -1", x.row(0, 0, -1), BAD);
        due("6: n 10", x.row(0, 0, 10), BAD);
        due("6: n ahead of kind", x.row(1, 0, 10), BAD);
        due("6: kind", x.row(1, 0, 9), STATE);
        due("6: stays", x.row(0, 0, 9), 9);
    }

    private static void promise7() {
        StarchedCollars x = new StarchedCollars();
        x.man(0, 3, 4, 5);
        int[] most = {9, 255, 99};
        int[] was = {4, 5, 0};
        int[] asked = {2, 3, 4};
        for (int what = 0; what < 3; what++) {
            due("7: too much", x.set(0, what, most[what] + 1), BAD);
            due("7: below 0", x.set(0, what, -1), BAD);
            due("7: was", x.set(0, what, most[what]), was[what]);
            due("7: is", x.of(0, asked[what]), most[what]);
            due("7: was then", x.set(0, what, 0), most[what]);
        }
        due("7: what -1", x.set(0, -1, 0), NONE);
        due("7: what 3", x.set(0, 3, 300), NONE);
        due("7: man", x.set(1, 0, 300), NONE);
        due("7: v stays", x.of(0, 1), 3);
    }

    private static void promise8() {
        StarchedCollars x = new StarchedCollars();
        x.man(0, 3, 4, 255);
        x.set(0, 2, 44);
        due("8: gone", x.stud(0, true), 0);
        due("8: gone again", x.stud(0, true), 1);
        due("8: bits", x.told(2), 1);
        due("8: height stays", x.of(0, 4), 44);
        due("8: creed stays", x.of(0, 3), 255);
        x.pass(1);
        due("8: no rise without", x.of(0, 4), 44);
        due("8: there", x.stud(0, false), 1);
        due("8: height stays then", x.of(0, 4), 44);
        x.pass(1);
        due("8: rise", x.of(0, 4), 47);
        due("8: man", x.stud(1, true), NONE);
        due("8: man -1", x.stud(-1, true), NONE);
    }

    private static void promise9() {
        StarchedCollars x = new StarchedCollars();
        x.man(0, 3, 4, 255);
        x.man(0, 3, 4, 255);
        due("9: away", x.away(1, true), 0);
        due("9: away again", x.away(1, true), 1);
        due("9: bits", x.told(3), 2);
        x.pass(2);
        due("9: no rise when away", x.of(1, 4), 0);
        due("9: rise of the other", x.of(0, 4), 6);
        due("9: back", x.away(1, false), 1);
        due("9: bits then", x.told(3), 0);
        due("9: man", x.away(2, true), NONE);
    }

    private static void promise10() {
        StarchedCollars x = new StarchedCollars();
        x.man(0, 0, 0, 255);
        x.man(1, 0, 9, 0);
        x.man(2, 0, 0, 170);
        due("10: all", x.apart(0, 1), 8);
        due("10: half", x.apart(2, 0), 4);
        x.away(2, true);
        due("10: away too", x.apart(1, 2), 4);
        due("10: both", x.apart(1, 1), BAD);
        due("10: neither", x.apart(3, 3), NONE);
        due("10: other", x.apart(0, 3), NONE);
        due("10: man", x.apart(-1, 0), NONE);
    }

    private static void promise11() {
        StarchedCollars x = new StarchedCollars();
        x.man(0, 0, 0, 15);
        x.man(1, 0, 9, 6);
        x.man(2, 0, 0, 170);
        due("11: shared", x.told(4), 2);
        x.away(1, true);
        due("11: shared, not by one away", x.told(4), 10);
        x.away(0, true);
        x.away(2, true);
        due("11: none", x.told(4), 255);
        due("11: away", x.told(3), 7);
        x.stud(2, true);
        due("11: gone, though away", x.told(2), 4);
        x.away(0, false);
        x.set(0, 2, 89);
        due("11: gone now, not in a week", x.told(2), 4);
        x.pass(7);
        due("11: week", x.told(0), 7);
        due("11: what -1", x.told(-1), NONE);
        due("11: what 5", x.told(5), NONE);
    }

    private static void promise12() {
        StarchedCollars x = inTown("burst 9;soften 5 k=1");
        x.man(0, 9, 0, 255);
        x.man(1, 0, 0, 255);
        due("12: -1", x.pass(-1), BAD);
        due("12: 61", x.pass(61), BAD);
        due("12: none", x.pass(0), 0);
        due("12: two", x.pass(2), 2);
        due("12: height", x.of(0, 4), 6);
        due("12: not below 0", x.of(1, 4), 0);
        due("12: three", x.pass(1), 3);
        due("12: burst", x.told(2), 1);
        due("12: height then", x.of(0, 4), 0);
        due("12: article 9 modulo 8", x.of(0, 3), 253);
        due("12: later", x.pass(60), 63);
        due("12: creed stays then", x.of(0, 3), 253);
        weeksUntilTheLast();
        burstsAndLimits();
    }

    private static void weeksUntilTheLast() {
        StarchedCollars x = inTown("soften 3 w=9;starch 4 w=9&h<1");
        x.man(0, 0, 0, 0);
        x.away(0, true);
        for (int i = 1; i <= 166; i++) {
            due("12: sixty", x.pass(60), 60 * i);
        }
        due("12: above 9999", x.pass(40), STATE);
        due("12: bad ahead of it", x.pass(61), BAD);
        due("12: 9999", x.pass(39), 9999);
        due("12: none more", x.pass(1), STATE);
        due("12: stays", x.told(0), 9999);
        due("12: 0 more", x.pass(0), 9999);
        x.away(0, false);
        due("13: beyond 9999", x.on(2, 10), 4 + 3);
        due("14: beyond 9999", x.when(0), 33);
    }

    private static void burstsAndLimits() {
        StarchedCollars x = inTown("burst 0;soften 9 p=0");
        x.man(0, 0, 0, 3);
        x.pass(1);
        due("12: burst 0", x.told(2), 1);
        due("12: an article that it does not hold", x.of(0, 3), 2);
        StarchedCollars y = inTown("burst 99;starch 95 p=0");
        y.man(0, 8, 0, 1);
        y.pass(1);
        due("12: 98", y.of(0, 4), 98);
        y.pass(1);
        due("12: 99 at most, and burst", y.of(0, 5), 1);
        due("12: article 8 modulo 8", y.of(0, 3), 0);
        StarchedCollars z = new StarchedCollars();
        z.man(0, 1, 0, 5);
        z.set(0, 2, 86);
        z.pass(1);
        due("12: 89", z.of(0, 4), 89);
        z.pass(1);
        due("12: 92", z.of(0, 4), 0);
        due("12: without that article", z.of(0, 3), 5);
    }

    /** In each of the ten weeks from week 3 on another rise, so that none can stand for another. */
    private static void weekByWeek() {
        StarchedCollars x = inTown("starch 1 w=3;starch 2 w=4;starch 4 w=5;starch 8 w=6;soften 3 w<3|w>6");
        x.man(0, 0, 0, 0);
        x.man(6, 0, 0, 0);
        x.row(1, 3, 5);
        x.row(1, 0, 9);
        x.pass(3);
        int[] first = {0, 4, 9, 16, 27, 27, 27, 27, 27, 27, 27, 31};
        int[] second = {0, 5, 15, 18, 25, 26, 31, 27, 23, 24, 29, 29};
        for (int n = 0; n < first.length; n++) {
            due("13: of the first behind " + n, x.on(n, 10), first[n]);
            due("13: of the second behind " + n, x.on(n, 11), second[n]);
        }
        x.see(0, 2, 9);
        x.see(0, 3, 16);
        due("19: the weeks in their order", x.highs(0, 1), 0);
        due("19: one alone", x.highs(0, 0), 1);
        townOf(x, "burst 20;starch 1 w=3;starch 2 w=4;starch 4 w=5;starch 8 w=6;soften 3 w<3|w>6");
        due("14: the weeks in their order", x.when(0), 4);
        x.plan(0, 0);
        x.plan(0, 0);
        x.plan(0, 0);
        due("24: the weeks in their order", x.done(1), 16 + 18);
    }

    private static void promise13() {
        StarchedCollars x = inTown("burst 10");
        x.man(0, 0, 0, 255);
        x.man(1, 2, 0, 255);
        due("13: now", x.on(0, 0), 0);
        due("13: one week", x.on(1, 11), 5);
        due("13: two weeks", x.on(2, 0), 2);
        due("13: its creed", x.on(2, 21), 251);
        due("13: the other's", x.on(2, 20), 255);
        due("13: four weeks", x.on(4, 0), 3);
        due("13: sixty", x.on(60, 20), 254);
        due("13: nothing is changed", x.told(0) + x.told(2) + x.of(0, 4), 0);
        due("13: what 1", x.on(0, 1), NONE);
        due("13: what 9", x.on(0, 9), NONE);
        due("13: what 12", x.on(0, 12), NONE);
        due("13: what 19", x.on(0, 19), NONE);
        due("13: what 22", x.on(0, 22), NONE);
        due("13: what -10", x.on(0, -10), NONE);
        due("13: what 30", x.on(61, 30), NONE);
        due("13: n 61", x.on(61, 0), BAD);
        weekByWeek();
        due("13: n -1", x.on(-1, 11), BAD);
    }

    private static void promise14() {
        StarchedCollars x = inTown("burst 60;soften 2 p=0;soften 3 p=2");
        x.man(0, 0, 0, 0);
        x.man(0, 0, 0, 0);
        x.man(0, 0, 0, 0);
        due("14: sixty weeks", x.when(0), 60);
        due("14: twenty weeks", x.when(1), 20);
        due("14: not by then", x.when(2), NEVER);
        x.stud(2, true);
        due("14: now", x.when(2), 0);
        x.away(0, true);
        due("14: away", x.when(0), NEVER);
        due("14: man", x.when(3), NONE);
        townOf(x, "burst 61;soften 2 p=0");
        x.away(0, false);
        due("14: 61 weeks", x.when(0), NEVER);
    }

    private static void promise15() {
        StarchedCollars x = new StarchedCollars();
        due("15: nobody", x.walk(-1), 0);
        due("15: k 0 of none", x.walk(0), NONE);
        x.man(0, 0, 0, 1);
        due("15: one alone", x.walk(0), NEVER);
        x.man(0, 0, 0, 2);
        due("15: two", x.walk(-1), 2);
        due("15: each other", x.walk(0) * 10 + x.walk(1), 10);
        x.man(0, 0, 0, 4);
        due("15: of several the first", x.walk(0) * 100 + x.walk(1) * 10 + x.walk(2), 100 - 5);
        x.man(0, 0, 0, 8);
        int[] four = {1, 0, 3, 2};
        for (int k = 0; k < 4; k++) {
            due("15: four", x.walk(k), four[k]);
        }
        due("15: four, how much", x.walk(-1), 4);
        x.set(3, 1, 1);
        int[] near = {3, 2, 1, 0};
        for (int k = 0; k < 4; k++) {
            due("15: nearest", x.walk(k), near[k]);
        }
        x.away(3, true);
        due("15: away", x.walk(3), NEVER);
        due("15: with whom then", x.walk(0), 1);
        x.set(0, 1, 255);
        due("15: the far one has none", x.walk(0), NEVER);
        due("15: how much then", x.walk(-1), 2);
        x.away(2, true);
        due("15: two must be together", x.walk(-1), 7);
        due("15: k -2", x.walk(-2), NONE);
        walkOfSix();
        due("15: k 4", x.walk(4), NONE);
    }

    private static void walkOfSix() {
        StarchedCollars x = new StarchedCollars();
        int[] creeds = {255, 15, 1, 254, 7, 0};
        for (int creed : creeds) {
            x.man(0, 0, 0, creed);
        }
        int[] with = {3, 4, 5, 0, 1, 2};
        for (int k = 0; k < 6; k++) {
            due("15: six", x.walk(k), with[k]);
        }
        due("15: six, how much", x.walk(-1), 3);
        x.away(0, true);
        int[] then = {NEVER, 4, 5, NEVER, 1, 2};
        for (int k = 0; k < 6; k++) {
            due("15: five", x.walk(k), then[k]);
        }
        x.away(5, true);
        x.away(2, true);
        x.away(4, true);
        due("15: the last two", x.walk(1) * 10 + x.walk(3), 31);
    }

    private static void promise16() {
        StarchedCollars x = new StarchedCollars();
        due("16: nobody", x.table(8), 0);
        due("16: q 9", x.table(9), BAD);
        due("16: q -1", x.table(-1), BAD);
        int[] creeds = {0, 3, 1, 7, 255, 254};
        for (int creed : creeds) {
            x.man(0, 0, 0, creed);
        }
        due("16: q 0", x.table(0), 1);
        due("16: q 1, the least of several", x.table(1), 5);
        due("16: q 2, the least of several", x.table(2), 7);
        due("16: q 3", x.table(3), 15);
        due("16: q 6, the greatest", x.table(6), 15);
        due("16: q 8", x.table(8), 63);
        x.away(2, true);
        due("16: none away", x.table(3), 11);
        due("16: none away, all near", x.table(8), 59);
    }

    private static void promise17() {
        StarchedCollars x = new StarchedCollars();
        due("17: nobody", x.wash(6), 0);
        due("17: -1", x.wash(-1), BAD);
        due("17: 7", x.wash(7), BAD);
        for (int i = 0; i < 5; i++) {
            x.man(0, 0, 0, 0);
        }
        x.set(1, 2, 54);
        x.set(3, 2, 53);
        x.set(4, 2, 80);
        due("17: none may be washed", x.wash(0), 0);
        due("17: one, the least", x.wash(1), 2);
        due("17: two", x.wash(2), 18);
        due("17: no more than need be", x.wash(6), 18);
        x.stud(1, true);
        due("17: gone is gone", x.wash(2), 16);
        x.away(4, true);
        due("17: one away is safe", x.wash(2), 0);
        due("17: nothing is changed", x.of(4, 4), 80);
        moreWashes();
    }

    private static void moreWashes() {
        StarchedCollars x = new StarchedCollars();
        for (int i = 0; i < 6; i++) {
            x.man(0, 0, 0, 0);
            x.set(i, 2, 60);
        }
        due("17: six", x.wash(6), 63);
        due("17: five", x.wash(5), 31);
        due("17: one", x.wash(1), 1);
        StarchedCollars y = inTown("burst 36");
        y.man(0, 0, 0, 0);
        y.set(0, 2, 1);
        due("17: behind twelve weeks, washed or not", y.wash(6), 0);
        StarchedCollars z = inTown("burst 37");
        z.man(0, 0, 0, 0);
        z.set(0, 2, 1);
        due("17: washed, not behind twelve weeks", z.wash(6), 1);
        StarchedCollars u = inTown("burst 65;starch 65 h=0;soften 2 h>0");
        u.man(4, 0, 0, 0);
        u.man(4, 0, 0, 0);
        u.man(0, 0, 0, 0);
        u.set(0, 2, 10);
        u.set(1, 2, 61);
        u.set(2, 2, 60);
        due("17: one goes either way, two would go if washed", u.wash(6), 0);
    }

    private static void promise18() {
        StarchedCollars x = new StarchedCollars();
        due("18: nobody", x.see(0, 0, 0), NONE);
        due("18: none", x.see(-1, 0, 0), 0);
        x.man(0, 0, 0, 0);
        due("18: n 21", x.see(0, 21, 0), BAD);
        due("18: n -1", x.see(0, -1, 0), BAD);
        due("18: height 100", x.see(0, 0, 100), BAD);
        due("18: height -1", x.see(0, 0, -1), BAD);
        due("18: man ahead of n", x.see(1, 21, 0), NONE);
        due("18: man -2", x.see(-2, 0, 0), NONE);
        for (int i = 1; i <= 5; i++) {
            due("18: see", x.see(0, 20, 99), i);
        }
        due("18: full", x.see(0, 0, 0), FULL);
        due("18: bad ahead of full", x.see(0, 0, 100), BAD);
        due("18: five", x.count(2), 5);
        due("18: none then", x.see(-1, 99, -7), 0);
        due("18: no more", x.count(2), 0);
    }

    private static void promise19() {
        StarchedCollars x = new StarchedCollars();
        x.man(0, 0, 0, 0);
        x.man(4, 7, 0, 0);
        due("19: nothing seen", x.highs(0, 0), 100);
        due("19: the least", x.highs(0, 1), 0);
        x.see(0, 2, 50);
        due("19: one", x.highs(0, 0), 1);
        due("19: it", x.highs(0, 1), 44);
        due("19: of the other nothing", x.highs(1, 0), 100);
        x.see(0, 4, 57);
        due("19: both can't be", x.highs(0, 0), 0);
        due("19: none", x.highs(0, 1), NEVER);
        x.see(-1, 0, 0);
        x.see(0, 1, 0);
        due("19: those that burst", x.highs(0, 0), 13);
        due("19: the least that bursts", x.highs(0, 1), 87);
        x.see(1, 1, 62);
        due("19: an elder", x.highs(1, 0), 2);
        due("19: an elder below 60", x.highs(1, 1), 52);
        x.see(-1, 0, 0);
        x.see(0, 0, 7);
        due("19: now", x.highs(0, 1), 7);
        x.pass(5);
        due("19: from now when it is asked", x.highs(0, 1), 7);
        x.away(0, true);
        x.see(0, 20, 7);
        due("19: away", x.highs(0, 1), 7);
        due("19: what 2", x.highs(0, 2), NONE);
        due("19: what -1", x.highs(0, -1), NONE);
        due("19: man", x.highs(2, 0), NONE);
        due("19: nothing is changed", x.of(0, 4), 15);
    }

    private static void promise20() {
        StarchedCollars x = inTown("starch 10 v>6");
        x.man(0, 1, 0, 0);
        x.man(1, 1, 0, 0);
        due("20: nothing seen", x.firm(0, 0), 10);
        due("20: the least", x.firm(0, 1), 0);
        x.see(0, 1, 13);
        due("20: three", x.firm(0, 0), 3);
        due("20: the least of three", x.firm(0, 1), 7);
        x.see(1, 2, 12);
        due("20: one", x.firm(1, 0), 1);
        due("20: it", x.firm(1, 1), 3);
        x.see(1, 1, 7);
        due("20: none", x.firm(1, 0), 0);
        due("20: none, least", x.firm(1, 1), NEVER);
        due("20: what 2", x.firm(0, 2), NONE);
        due("20: what -1", x.firm(0, -1), NONE);
        due("20: man", x.firm(2, 0), NONE);
        due("20: nothing is changed", x.of(1, 1), 1);
    }

    private static void promise21() {
        StarchedCollars x = inTown("burst 14;soften 7 k=0");
        x.man(3, 0, 0, 7);
        x.man(0, 0, 0, 7);
        due("21: above", x.odds(0, 2, 0), 5);
        due("21: below", x.odds(0, 2, 1), 8);
        due("21: all", x.odds(0, 3, 0), 1);
        due("21: all, below", x.odds(0, 3, 1), 1);
        due("21: never", x.odds(1, 60, 0), 0);
        due("21: never, below", x.odds(1, 60, 1), 1);
        x.set(0, 1, 15);
        due("21: half", x.odds(0, 2, 0), 1);
        x.set(0, 1, 3);
        due("21: lowest terms", x.odds(0, 2, 0) * 10 + x.odds(0, 2, 1), 1);
        due("21: nothing is changed", x.of(0, 3), 3);
        due("21: part 2", x.odds(0, 2, 2), NO);
        due("21: part -1", x.odds(0, 2, -1), NO);
        due("21: n 61", x.odds(0, 61, 0), NO);
        due("21: n -1", x.odds(0, -1, 0), NO);
        due("21: man", x.odds(2, 0, 0), NO);
        x.stud(1, true);
        due("21: gone now", x.odds(1, 0, 0) * 10 + x.odds(1, 0, 1), 11);
        StarchedCollars y = inTown("burst 5;starch 2 c=5;soften 3 !c=5");
        y.man(0, 0, 0, 15);
        due("21: one article more", y.odds(0, 1, 0) * 10 + y.odds(0, 1, 1), 12);
        y.set(0, 1, 63);
        due("21: one less", y.odds(0, 1, 0) * 10 + y.odds(0, 1, 1), 34);
    }

    private static void promise22() {
        StarchedCollars x = new StarchedCollars();
        due("22: nobody", x.mean(0), NO);
        for (int i = 0; i < 4; i++) {
            x.man(0, 0, 0, 0);
        }
        due("22: heights 0", x.mean(0), 0);
        due("22: heights 0, below", x.mean(1), 1);
        x.set(0, 2, 99);
        x.set(1, 2, 3);
        due("22: 102 by 4", x.mean(0), 51);
        due("22: 102 by 4, below", x.mean(1), 2);
        x.away(3, true);
        due("22: 102 by 3", x.mean(0), 34);
        due("22: 102 by 3, below", x.mean(1), 1);
        x.away(0, true);
        x.stud(1, true);
        due("22: 3 by 2", x.mean(0) * 10 + x.mean(1), 32);
        due("22: part 2", x.mean(2), NO);
        due("22: part -1", x.mean(-1), NO);
        x.away(1, true);
        x.away(2, true);
        due("22: all away", x.mean(1), NO);
    }

    private static void promise23() {
        StarchedCollars x = new StarchedCollars();
        due("23: a week, nobody there", x.plan(0, 77), 1);
        due("23: of nobody", x.plan(1, 0), NONE);
        x.man(0, 0, 0, 0);
        due("23: 1", x.plan(1, 0), 2);
        due("23: 2", x.plan(2, 0), 3);
        due("23: 3", x.plan(3, 0), 4);
        due("23: 4", x.plan(4, 0), NONE);
        due("23: -2", x.plan(-2, 0), NONE);
        due("23: man", x.plan(3, 1), NONE);
        due("23: man -1", x.plan(1, -1), NONE);
        for (int i = 5; i <= 8; i++) {
            due("23: a week", x.plan(0, -1), i);
        }
        due("23: full", x.plan(0, 0), FULL);
        due("23: none ahead of full", x.plan(4, 0), NONE);
        due("23: eight", x.count(3), 8);
        due("23: none then", x.plan(-1, 55), 0);
        due("23: no rows", x.count(3), 0);
    }

    private static void promise24() {
        StarchedCollars x = inTown("burst 9;starch 1 w=2");
        due("24: nobody", x.done(1), 0);
        x.man(0, 0, 0, 255);
        x.man(1, 3, 0, 255);
        due("24: no plan", x.done(1), 0);
        x.plan(0, 0);
        due("24: a week", x.done(1), 9);
        x.plan(0, 0);
        due("24: two weeks", x.done(1), 6);
        due("24: gone", x.done(0), 2);
        x.plan(2, 1);
        due("24: the stud is there", x.done(0), 0);
        x.plan(1, 0);
        due("24: washed", x.done(1), 0);
        x.plan(0, 0);
        due("24: the third week", x.done(1), 4 + 7);
        x.plan(3, 0);
        x.plan(0, 0);
        due("24: one away", x.done(1), 4);
        due("24: the other's stud", x.done(0), 2);
        due("24: what 2", x.done(2), NONE);
        due("24: what -1", x.done(-1), NONE);
        due("24: nothing is changed", x.of(0, 4) + x.told(0) + x.told(3), 0);
    }

    private static void promise25() {
        StarchedCollars x = new StarchedCollars();
        due("25: nobody", x.book(0, 0), NONE);
        due("25: none", x.book(-1, 0), 0);
        x.man(0, 0, 0, 5);
        due("25: creed 256", x.book(0, 256), BAD);
        due("25: creed -1", x.book(0, -1), BAD);
        due("25: man ahead of creed", x.book(1, 256), NONE);
        for (int i = 1; i <= 8; i++) {
            due("25: book", x.book(0, i % 2 == 0 ? 255 : 0), i);
        }
        due("25: full", x.book(0, 0), FULL);
        due("25: bad ahead of full", x.book(0, 256), BAD);
        due("25: eight", x.count(4), 8);
        due("25: none then", x.book(-1, 999), 0);
        due("25: no rows", x.count(4), 0);
    }

    private static void promise26() {
        StarchedCollars x = new StarchedCollars();
        x.man(0, 0, 0, 5);
        x.man(0, 1, 0, 6);
        due("26: nothing told", x.looked(), NEVER);
        x.book(0, 5);
        x.book(1, 6);
        x.book(0, 4);
        due("26: the third", x.looked(), 2);
        x.set(1, 1, 4);
        due("26: the second", x.looked(), 1);
        x.set(0, 1, 4);
        due("26: the first", x.looked(), 0);
        x.book(-1, 0);
        x.book(1, 4);
        due("26: as told", x.looked(), NEVER);
    }

    /** Of six men, of the kinds 0 .. 5 and then of 1 .. 6, each with v 3. */
    private static void promise27() {
        int[] nods = {10, 31, 12, 13, 34, 15 ^ 5};
        int[] preaches = {7, 28, -9, 10, 31, -((15 ^ 5) - 3)};
        int[] turns = {14, 56, -18, 20 ^ 7, (27 + 4 - 3) * 2 + 10, -2 * ((15 ^ 5) - 3)};
        StarchedCollars x = new StarchedCollars();
        for (int kind = 0; kind < 6; kind++) {
            x.man(kind, 3, 0, 0);
        }
        for (int i = 0; i < 6; i++) {
            due("27: nods of " + i, x.act(i, 0, 10), nods[i]);
            due("27: preaches of " + i, x.act(i, 1, 10), preaches[i]);
            due("27: turns of " + i, x.act(i, 2, 10), turns[i]);
        }
        due("27: wraps", x.act(1, 0, 1 << 30), (1 << 31) + (1 << 30) + 1);
        due("27: wraps, too", x.act(0, 2, Integer.MIN_VALUE), -6);
        due("27: man", x.act(6, 0, 5), 0);
        due("27: no trace then", x.count(6), 0);
        x.act(0, 0, 5);
        due("27: act 3", x.act(0, 3, 5), 0);
        due("27: no trace then, too", x.trace(0), NONE);
        x.act(0, 0, 5);
        due("27: act -1", x.act(0, -1, 5), 0);
        due("27: no trace then, either", x.count(6), 0);
        StarchedCollars y = new StarchedCollars();
        y.man(0, 0, 0, 0);
        y.man(6, 3, 0, 0);
        due("27: told nods", y.act(1, 0, 10), 11);
        due("27: told preaches", y.act(1, 1, 10), 11);
        due("27: told turns", y.act(1, 2, 10), 22 ^ 7);
    }

    private static void promise28() {
        int[][] bodies = {
            {1, 2, 1, 3, 2, 1}, {11, 1, 2, 11, 1, 3, 2, 11, 1}, {1, 21, 2, 1, 3, 21, 2, 1},
            {1, 2, 1, 31, 3, 2, 1}, {11, 1, 2, 11, 1, 41, 3, 2, 11, 1, 11, 1},
            {51, 1, 21, 2, 51, 1, 3, 21, 2, 51, 1}, {1, 61, 2, 1, 31, 3, 61, 2, 1}};
        for (int kind = 0; kind <= 6; kind++) {
            StarchedCollars x = new StarchedCollars();
            due("28: nothing yet", x.trace(0), NONE);
            x.man(kind, 1, 0, 0);
            int from = 0;
            for (int act = 0; act < 3; act++) {
                x.act(0, act, 4);
                int ran = x.count(6);
                for (int i = 0; i < ran; i++) {
                    due("28: body of kind " + kind, x.trace(i), from < bodies[kind].length ? bodies[kind][from] : 0);
                    from++;
                }
                due("28: behind the last", x.trace(ran), NONE);
                due("28: i -1", x.trace(-1), NONE);
                due("28: i 20", x.trace(20), NONE);
            }
            due("28: all bodies", from, bodies[kind].length);
        }
    }

    private static void promise29() {
        int[] under = {1, 3, 5, 9, 19, 37, 73};
        for (int kind = 0; kind <= 6; kind++) {
            StarchedCollars x = new StarchedCollars();
            x.man(kind, 9 - kind, 0, 0);
            for (int k = 0; k <= 6; k++) {
                due("29: " + kind + " as " + k, x.as(0, k), (under[kind] >> k & 1) == 1 ? 9 - kind : -6);
            }
            due("29: k -1", x.as(0, -1), NONE);
            due("29: k 7", x.as(0, 7), NONE);
            due("29: man", x.as(1, 0), NONE);
        }
    }

    private static void promise30And31() {
        StarchedCollars x = new StarchedCollars();
        due("31: no image", x.undo(), STATE);
        due("30: nobody", x.image(), 0);
        townOf(x, "burst 50;starch 2 p=0");
        feedAll(x, "sta");
        x.man(6, 1, 2, 3);
        x.row(0, 2, 7);
        x.pass(2);
        x.see(0, 0, 4);
        x.plan(1, 0);
        x.book(0, 9);
        x.act(0, 0, 1);
        due("30: one", x.image(), 1);
        for (int i = 0; i < 2; i++) {
            x.man(0, 0, 0, 0);
            x.set(0, 0, 8);
            x.set(0, 1, 8);
            x.set(0, 2, 8);
            x.row(0, 2, 0);
            x.stud(0, true);
            x.away(0, true);
            x.pass(3);
            x.town();
            townOf(x, "burst 60");
            x.see(-1, 0, 0);
            x.see(0, 0, 99);
            x.see(0, 2, 99);
            x.plan(-1, 0);
            x.plan(2, 0);
            x.plan(0, 0);
            x.book(-1, 0);
            x.book(0, 3);
            x.book(0, 3);
            feedAll(x, "burst");
            x.act(0, 2, 1);
            due("31: one", x.undo(), 1);
            asTaken(x);
        }
        x.man(0, 0, 0, 0);
        due("30: two", x.image(), 2);
        due("31: two", x.undo(), 2);
    }

    private static void asTaken(StarchedCollars x) {
        int[] counts = {1, 1, 1, 1, 1, 3, 5};
        for (int what = 0; what <= 6; what++) {
            due("31: count " + what, x.count(what), counts[what]);
        }
        int[] is = {6, 1, 2, 3, 6, 0, 0, 3 + 2 + 2 + 7 - 4};
        for (int what = 0; what < is.length; what++) {
            due("31: of " + what, x.of(0, what), is[what]);
        }
        due("31: week", x.told(0), 2);
        due("31: burst", x.told(1), 50);
        due("31: book", x.looked(), 0);
        due("31: the trace is of the latest act", x.trace(0), 31);
        due("31: tape", x.feed('r'), 4);
        due("31: tape that is a fault", x.town(), -14);
        due("31: seen", x.highs(0, 1), 4);
        due("31: plan", x.done(1), 0);
        x.set(0, 2, 8);
        x.plan(-1, 0);
        due("31: no plan", x.done(1), 8);
    }

    private static void madeAnew() {
        StarchedCollars x = new StarchedCollars();
        x.image();
        x.man(6, 9, 9, 255);
        for (int k = 0; k < 4; k++) {
            x.row(0, k, 9);
        }
        x.set(0, 2, 50);
        x.stud(0, true);
        x.away(0, true);
        x.undo();
        due("4: made anew", x.man(6, 1, 2, 3), 0);
        int[] is = {6, 1, 2, 3, 0, 0, 0, 3 + 2 - 4, 0, 0};
        for (int what = 0; what < is.length; what++) {
            due("4: of " + what, x.of(0, what), is[what]);
        }
        for (int k = 0; k < 4; k++) {
            due("4: row", x.row(0, k, 1), 0);
        }
    }

    private static void promise32() {
        StarchedCollars x = new StarchedCollars();
        due("32: what -1", x.count(-1), NONE);
        due("32: what 7", x.count(7), NONE);
        townOf(x, "burst 1");
        townOf(x, "burst 1");
        feedAll(x, "abc");
        for (int i = 0; i < 6; i++) {
            x.man(4, 0, 0, 0);
        }
        x.see(0, 0, 0);
        for (int i = 0; i < 4; i++) {
            x.plan(0, 0);
        }
        for (int i = 0; i < 5; i++) {
            x.book(0, 0);
        }
        x.act(0, 2, 0);
        int[] want = {6, 2, 1, 4, 5, 3, 7};
        for (int what = 0; what <= 6; what++) {
            due("32: count " + what, x.count(what), want[what]);
        }
    }

    public static void main(String[] args) {
        promise1();
        promise2();
        promise3();
        promise4();
        promise5();
        promise6();
        promise7();
        promise8();
        promise9();
        promise10();
        promise11();
        promise12();
        promise13();
        promise14();
        promise15();
        promise16();
        promise17();
        promise18();
        promise19();
        promise20();
        promise21();
        promise22();
        promise23();
        promise24();
        promise25();
        promise26();
        promise27();
        promise28();
        promise29();
        promise30And31();
        madeAnew();
        promise32();
        CHECK.end();
    }
}
