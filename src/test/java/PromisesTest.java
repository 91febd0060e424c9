/** Each promise by its number: ordinary inputs, the edges that the document names, wrong inputs. */
public final class PromisesTest {
    private static final int NONE = -6, UNKNOWN = -1, OUTSIDE = -2, STATE = -3, FULL = -4, NO = -5;
    private static final int GONE = -1000000;
    private static final long LOST = -1000000000000000000L;
    private static final Check check = new Check();

    private static void due(String call, long got, long want) {
        check.due(call, got, want);
    }

    private static void say(AshLines x, String text) {
        for (int i = 0; i < text.length(); i++) x.say(text.charAt(i));
    }

    private static int ruled(AshLines x, String text) {
        x.wipe();
        say(x, text);
        return x.rule();
    }

    private static int faultOf(String text) {
        AshLines x = new AshLines();
        say(x, text);
        return x.fault();
    }

    /** One grain of house 0 in each of these lines, all readings alike. */
    private static AshLines withLines(int... lines) {
        AshLines x = new AshLines();
        for (int line : lines) x.grain(line / 24, line % 24, 0, 50, 50, 50);
        return x;
    }

    /** Leans of house 0 known to be 0 and no slack, so that what is read is what is true. */
    private static AshLines sharp() {
        AshLines x = new AshLines();
        x.slack(0);
        for (int stuff = 0; stuff < 3; stuff++) x.piece(0, stuff, 50, 50);
        return x;
    }

    public static void main(String[] args) {
        p1();
        p2();
        p3();
        p4and5();
        p6();
        p7();
        p8and9();
        p10and11();
        p12();
        p13();
        p14();
        p15();
        p16();
        p17();
        p18and19();
        p20();
        p21();
        p22();
        p23and24();
        p25and26();
        p27();
        p28();
        p29();
        p30and31();
        p32();
        p33();
        p34();
        p35to37();
        p38();
        p38refusals();
        p39();
        p40and41();
        p42();
        p43();
        check.end("PromisesTest");
    }

    private static void p1() {
        AshLines x = new AshLines();
        due("1 told(0)", x.told(0), 0);
        due("1 told(1)", x.told(1), 0);
        due("1 told(2)", x.told(2), 0);
        due("1 told(3)", x.told(3), 1);
        due("1 told(4)", x.told(4), 0);
        due("1 told(5)", x.told(5), 0);
        due("1 told(6)", x.told(6), 0);
        due("1 told(7)", x.told(7), 0);
        for (int line = 0; line < 144; line++) due("1 grains", x.grains(line), 0);
        for (int day = 0; day < 10; day++) {
            due("1 net least", x.net(0, day, 0), 0);
            due("1 net greatest", x.net(0, day, 1), 9999);
        }
        due("1 net(1, 143, 1)", x.net(1, 143, 1), 9999);
        due("1 broken", x.broken(), STATE);
    }

    private static void p2() {
        AshLines x = new AshLines();
        due("2 piece", x.piece(2, 1, 40, 45), 1);
        due("2 least", x.lean(2, 1, 0), 4);
        due("2 greatest", x.lean(2, 1, 1), 6);
        due("2 other stuff", x.lean(2, 0, 0), -9);
        due("2 other house", x.lean(1, 1, 1), 9);
        due("2 at the rim", x.piece(0, 0, 0, 10), 2);
        due("2 rim least", x.lean(0, 0, 0), 9);
        due("2 rim greatest", x.lean(0, 0, 1), 9);
        due("2 beyond the rim", x.piece(1, 0, 0, 11), NO);
        due("2 nothing changed", x.lean(1, 0, 1), 9);
        due("2 against another", x.piece(2, 1, 40, 48), NO);
        due("2 still", x.lean(2, 1, 1), 6);
        due("2 meets", x.piece(2, 1, 40, 47), 3);
        due("2 met", x.lean(2, 1, 0), 6);
        due("2 house -1", x.piece(-1, 9, 0, 0), UNKNOWN);
        due("2 house 3", x.piece(3, 0, 100, 0), UNKNOWN);
        due("2 stuff 3", x.piece(0, 3, 0, 0), OUTSIDE);
        due("2 stuff -1", x.piece(0, -1, 0, 0), OUTSIDE);
        due("2 known 100", x.piece(0, 0, 100, 99), OUTSIDE);
        due("2 known -1", x.piece(0, 0, -1, 0), OUTSIDE);
        due("2 read 100", x.piece(0, 0, 99, 100), OUTSIDE);
        due("2 read -1", x.piece(0, 0, 0, -1), OUTSIDE);
        for (int i = 4; i <= 30; i++) due("2 filling", x.piece(2, 0, 99, 99), i);
        due("2 full", x.piece(2, 0, 99, 99), FULL);
        due("2 full ahead of no", x.piece(2, 0, 0, 99), FULL);
        due("2 outside ahead of full", x.piece(2, 0, 0, 100), OUTSIDE);
        due("2 round is full too", x.round(0, 1, 2, 0, 0), FULL);
    }

    private static void p3() {
        AshLines x = new AshLines();
        due("3 round", x.round(0, 1, 2, 60, 45), 1);
        due("3 first least", x.lean(0, 2, 0), 4);
        due("3 first greatest", x.lean(0, 2, 1), 9);
        due("3 second least", x.lean(1, 2, 0), -9);
        due("3 second greatest", x.lean(1, 2, 1), -4);
        due("3 other stuff", x.lean(0, 1, 0), -9);
        x.slack(0);
        due("3 chain of rounds", x.round(1, 2, 2, 50, 46), 2);
        due("3 third greatest", x.lean(2, 2, 1), -8);
        due("3 second by third", x.lean(1, 2, 0), -5);
        due("3 first by third", x.lean(0, 2, 1), 9);
        due("3 ring that cannot be", x.round(2, 0, 2, 50, 50), NO);
        due("3 nothing kept", x.told(1), 2);
        due("3 still", x.lean(2, 2, 0), -9);
        due("3 both one", x.round(1, 1, 0, 0, 0), UNKNOWN);
        due("3 other 3", x.round(1, 3, 0, 0, 0), UNKNOWN);
        due("3 house -1", x.round(-1, 1, 9, 0, 0), UNKNOWN);
        due("3 stuff 3", x.round(0, 1, 3, 0, 0), OUTSIDE);
        due("3 read 100", x.round(0, 1, 0, 100, 99), OUTSIDE);
        due("3 by -1", x.round(0, 1, 0, 0, -1), OUTSIDE);
        due("3 a refused one leaves no trace", x.round(0, 1, 0, 99, 0), NO);
        due("3 no trace", x.lean(0, 0, 0), -9);
        x = new AshLines();
        x.slack(0);
        due("3 contradiction one", x.round(0, 1, 0, 55, 50), 1);
        due("3 contradiction two", x.round(0, 1, 0, 54, 50), NO);
        due("3 turned round is the same", x.round(1, 0, 0, 50, 55), 2);
        x.slack(3);
        due("3 slack as it was then", x.piece(0, 0, 50, 50), 3);
        due("3 first by slack 3", x.lean(0, 0, 0), -3);
        due("3 second by slack 0", x.lean(1, 0, 1), -2);
        x.slack(0);
        due("3 the piece keeps its slack", x.lean(0, 0, 1), 3);
    }

    private static void p4and5() {
        AshLines x = new AshLines();
        for (int house = 0; house < 3; house++) {
            for (int stuff = 0; stuff < 3; stuff++) {
                due("4 least", x.lean(house, stuff, 0), -9);
                due("4 greatest", x.lean(house, stuff, 1), 9);
            }
        }
        due("4 house", x.lean(3, 9, 9), GONE - 1);
        due("4 house -1", x.lean(-1, 0, 0), GONE - 1);
        due("4 stuff", x.lean(0, 3, 0), GONE - 2);
        due("4 end", x.lean(0, 0, 2), GONE - 2);
        due("4 end -1", x.lean(0, 0, -1), GONE - 2);
        due("5 was 1", x.slack(3), 1);
        due("5 was 3", x.slack(0), 3);
        due("5 below", x.slack(-1), OUTSIDE);
        due("5 beyond", x.slack(4), OUTSIDE);
        due("5 kept", x.told(3), 0);
    }

    private static void p6() {
        AshLines x = new AshLines();
        due("6 core", x.grain(6, 0, 0, 100, 0, 0), UNKNOWN);
        due("6 core -1", x.grain(-1, 0, 0, 0, 0, 0), UNKNOWN);
        due("6 inch", x.grain(0, 24, 0, 0, 0, 0), UNKNOWN);
        due("6 inch -1", x.grain(0, -1, 0, 0, 0, 0), UNKNOWN);
        due("6 house", x.grain(0, 0, 3, 0, 0, 0), UNKNOWN);
        due("6 a", x.grain(0, 0, 0, 100, 0, 0), OUTSIDE);
        due("6 b", x.grain(0, 0, 0, 0, -1, 0), OUTSIDE);
        due("6 c", x.grain(0, 0, 0, 0, 0, 100), OUTSIDE);
        for (int i = 0; i < 60; i++) due("6 number", x.grain(i % 6, i % 24, i % 3, 99, 0, i), i);
        due("6 full", x.grain(0, 0, 0, 0, 0, 0), FULL);
        due("6 outside ahead of full", x.grain(0, 0, 0, 0, 0, 100), OUTSIDE);
        due("6 all", x.told(0), 60);
    }

    private static void p7() {
        AshLines x = new AshLines();
        x.grain(3, 5, 1, 10, 0, 99);
        due("7 wide least", x.truly(0, 0, 0), 0);
        due("7 wide greatest", x.truly(0, 0, 1), 20);
        due("7 below 0", x.truly(0, 1, 0), -10);
        due("7 beyond 99", x.truly(0, 2, 1), 109);
        x.piece(1, 0, 50, 53);
        due("7 by lean, least", x.truly(0, 0, 0), 5);
        due("7 by lean, greatest", x.truly(0, 0, 1), 9);
        x.slack(3);
        due("7 by slack, least", x.truly(0, 0, 0), 3);
        due("7 by slack, greatest", x.truly(0, 0, 1), 11);
        due("7 no grain", x.truly(1, 9, 9), GONE - 1);
        due("7 grain -1", x.truly(-1, 0, 0), GONE - 1);
        due("7 stuff", x.truly(0, 3, 0), GONE - 2);
        due("7 end", x.truly(0, 0, 2), GONE - 2);
    }

    private static void p8and9() {
        AshLines x = sharp();
        x.piece(1, 0, 50, 54);
        x.grain(2, 7, 0, 20, 30, 40);
        x.grain(2, 7, 1, 30, 30, 40);
        x.grain(2, 7, 0, 24, 33, 38);
        due("8 three", x.grains(55), 3);
        due("8 none", x.grains(54), 0);
        due("8 last", x.grains(143), 0);
        due("8 beyond", x.grains(144), UNKNOWN);
        due("8 below", x.grains(-1), UNKNOWN);
        due("9 a least", x.glass(55, 0, 0), 20);
        due("9 a greatest", x.glass(55, 0, 1), 26);
        due("9 b least", x.glass(55, 1, 0), 21);
        due("9 b greatest", x.glass(55, 1, 1), 39);
        due("9 c least", x.glass(55, 2, 0), 31);
        x.round(1, 0, 2, 50, 50);
        due("9 after a round piece", x.glass(55, 2, 0), 38);
        due("9 after it, greatest", x.glass(55, 2, 1), 40);
        x.slack(2);
        due("9 after slack", x.glass(55, 2, 0), 36);
        due("9 no grains", x.glass(54, 9, 9), GONE - 1);
        due("9 no line", x.glass(144, 0, 0), GONE - 1);
        due("9 line -1", x.glass(-1, 0, 0), GONE - 1);
        due("9 stuff", x.glass(55, 3, 0), GONE - 2);
        due("9 end", x.glass(55, 0, -1), GONE - 2);
    }

    private static void p10and11() {
        AshLines x = new AshLines();
        due("10 32", x.say(32), OUTSIDE);
        due("10 127", x.say(127), OUTSIDE);
        due("10 33", x.say(33), 1);
        due("10 126", x.say(126), 2);
        due("11 two", x.wipe(), 2);
        due("11 none", x.wipe(), 0);
        for (int i = 1; i <= 50; i++) due("10 more", x.say('a'), i);
        due("10 full", x.say('a'), FULL);
        due("10 outside ahead of full", x.say(32), OUTSIDE);
        due("10 kept", x.told(2), 50);
        due("11 fifty", x.wipe(), 50);
        ruled(x, "a<1|b<1");
        say(x, "zz");
        due("11 two again", x.wipe(), 2);
        due("11 the rule stays", x.told(6), 2);
    }

    private static void p12() {
        due("12 empty", faultOf(""), 0);
        due("12 fact alone", faultOf("g"), 1);
        due("12 no digit", faultOf("g="), 2);
        due("12 one digit", faultOf("g=1"), NONE);
        due("12 two digits", faultOf("y>10"), NONE);
        due("12 three digits", faultOf("b<100"), NONE);
        due("12 four digits", faultOf("b<1000"), 5);
        due("12 wrong fact", faultOf("d<1"), 0);
        due("12 great letter", faultOf("A<1"), 0);
        due("12 wrong compare", faultOf("a!1"), 1);
        due("12 two compares", faultOf("a<=1"), 2);
        due("12 letter for a digit", faultOf("a<x"), 2);
        due("12 joined", faultOf("a<1&b>2|c=3&g>1"), NONE);
        due("12 ends with and", faultOf("a<1&"), 4);
        due("12 ends with or", faultOf("a<1|"), 4);
        due("12 begins with or", faultOf("|a<1"), 0);
        due("12 two ors", faultOf("a<1||b<1"), 4);
        due("12 and after compare", faultOf("a<&"), 2);
        due("12 fact after digit", faultOf("a<1b<1"), 3);
        due("12 below the digits", faultOf("a</"), 2);
        due("12 beyond the digits", faultOf("a<:"), 2);
        due("12 fifty signs", faultOf("a<1&a<1&a<1&a<1&a<1&a<1&a<1&a<1&a<1&a<1&a<1&a<1111"), 50 - 1);
        due("12 fifty good ones", faultOf("a<1&a<1&a<1&a<1&a<1&a<1&a<1&a<1&a<1&a<1&a<11&a<111"), NONE);
        due("12 fifty, more must come", faultOf("a<1&a<1&a<1&a<1&a<1&a<1&a<1&a<1&a<1&a<1&a<1&a<1&a<"), 50);
    }

    private static void p13() {
        AshLines x = new AshLines();
        due("13 empty", x.rule(), NO);
        say(x, "a<1&");
        due("13 fault", x.rule(), NO);
        due("13 signs stay", x.told(2), 4);
        say(x, "b<1|y=0|g>2");
        due("13 boths", x.rule(), 3);
        due("13 signs gone", x.told(2), 0);
        due("13 told", x.told(6), 3);
        say(x, "q");
        due("13 refused", x.rule(), NO);
        due("13 old rule stays", x.told(6), 3);
        due("13 new rule", ruled(x, "a<1"), 1);
    }

    private static void p14() {
        AshLines x = sharp();
        x.grain(0, 0, 0, 10, 20, 30);
        x.grain(0, 5, 0, 14, 20, 25);
        x.grain(0, 5, 0, 12, 22, 30);
        due("14 a", x.gap(0, 5, 0), 2);
        due("14 turned", x.gap(5, 0, 0), 2);
        due("14 touching", x.gap(0, 5, 1), 0);
        due("14 within", x.gap(0, 5, 2), 0);
        due("14 ages", x.gap(0, 5, 3), 0);
        x.age(1, 0, 0, 100);
        x.age(1, 5, 150, 160);
        due("14 ages apart", x.gap(0, 5, 3), 50);
        due("14 ages turned", x.gap(5, 0, 3), 50);
        due("14 both one", x.gap(0, 0, 0), UNKNOWN);
        due("14 no line", x.gap(0, 1, 9), UNKNOWN);
        due("14 no line ahead", x.gap(1, 0, 0), UNKNOWN);
        due("14 beyond", x.gap(0, 144, 0), UNKNOWN);
        due("14 below", x.gap(-1, 0, 0), UNKNOWN);
        due("14 what 4", x.gap(0, 5, 4), OUTSIDE);
        due("14 what -1", x.gap(0, 5, -1), OUTSIDE);
        x.age(1, 0, 200, 200);
        due("14 clash", x.gap(0, 5, 3), NO);
        due("14 clash, glass all the same", x.gap(0, 5, 0), 2);
        x.sunk(5, true);
        due("14 a sunk one keeps what was told", x.gap(0, 5, 3), 40);
    }

    private static void p15() {
        AshLines x = sharp();
        x.grain(0, 0, 0, 10, 20, 30);
        x.grain(1, 0, 0, 15, 20, 37);
        x.grain(1, 0, 0, 15, 20, 37);
        due("15 no rule", x.alike(0, 24), STATE);
        due("15 unknown ahead", x.alike(0, 25), UNKNOWN);
        due("15 both one", x.alike(0, 0), UNKNOWN);
        String[] so = {"a<6", "a=5", "a>4", "b=0", "c=7", "c>6&c<8", "g=1", "g<2", "g>0", "a<5|c=007", "y=0", "a=5&b<1&c=7&g=1&y=0"};
        String[] not = {"a<5", "a>5", "a=4", "b>0", "c=8", "g=2", "g>1", "a=5&c=6", "a=5&c=6|g=3", "y>0", "a=50", "c<7"};
        for (String text : so) {
            ruled(x, text);
            due("15 " + text, x.alike(0, 24), 1);
            due("15 turned " + text, x.alike(24, 0), 1);
        }
        for (String text : not) {
            ruled(x, text);
            due("15 " + text, x.alike(0, 24), 0);
            due("15 turned " + text, x.alike(24, 0), 0);
        }
        x.age(1, 0, 10, 10);
        x.age(1, 24, 13, 20);
        ruled(x, "y=3");
        due("15 ages", x.alike(0, 24), 1);
        x.age(1, 3, 5, 5);
        due("15 clash", x.alike(0, 24), NO);
        due("15 unknown ahead of clash", x.alike(0, 1), UNKNOWN);
        ruled(x, "a<9|y<9");
        due("15 clash, though another both is so", x.alike(0, 24), NO);
        ruled(x, "a<9");
        due("15 clash, no y", x.alike(0, 24), 1);
    }

    private static void p16() {
        AshLines x = sharp();
        x.grain(0, 3, 0, 10, 0, 0);
        x.grain(1, 3, 0, 12, 0, 0);
        x.grain(2, 3, 0, 14, 0, 0);
        x.grain(3, 3, 0, 90, 0, 0);
        due("16 no rule", x.chain(3, -1), STATE);
        due("16 no line", x.chain(4, -1), UNKNOWN);
        due("16 beyond", x.chain(144, -1), UNKNOWN);
        ruled(x, "a<3");
        for (int line = 3; line < 72; line += 24) {
            due("16 three", x.chain(line, -1), 3);
            due("16 first", x.chain(line, 0), 3);
            due("16 second", x.chain(line, 1), 27);
            due("16 third", x.chain(line, 2), 51);
            due("16 no more", x.chain(line, 3), NONE);
            due("16 below", x.chain(line, -2), NONE);
        }
        due("16 alone", x.chain(75, -1), 1);
        due("16 itself", x.chain(75, 0), 75);
        due("16 far", x.chain(75, 2147483647), NONE);
        ruled(x, "a<3&y=0");
        x.age(1, 0, 2, 2);
        x.age(1, 1, 1, 1);
        due("16 clash", x.chain(3, -1), NO);
        due("16 unknown ahead", x.chain(0, -1), UNKNOWN);
    }

    private static void p17() {
        AshLines x = sharp();
        due("17 no rule", x.broken(), STATE);
        ruled(x, "a<3");
        due("17 no lines", x.broken(), 0);
        x.grain(0, 3, 0, 10, 0, 0);
        x.grain(1, 3, 0, 12, 0, 0);
        x.grain(3, 3, 0, 90, 0, 0);
        x.grain(4, 3, 0, 91, 0, 0);
        x.grain(5, 3, 0, 92, 0, 0);
        due("17 all alike", x.broken(), 0);
        x.grain(2, 3, 0, 14, 0, 0);
        due("17 three", x.broken(), 3);
        x.grain(5, 23, 0, 94, 0, 0);
        due("17 two chains", x.broken(), 7);
        ruled(x, "a<5");
        due("17 wider", x.broken(), 0);
        ruled(x, "a<3|y>1");
        x.age(1, 0, 2, 2);
        x.age(1, 1, 1, 1);
        due("17 clash", x.broken(), NO);
        AshLines most = sharp();
        for (int i = 0; i < 60; i++) most.grain(i / 24, i % 24, 0, i, 0, 0);
        ruled(most, "a<2");
        due("17 sixty", most.broken(), 60);
        due("17 sixty in a chain", most.chain(0, -1), 60);
        due("17 the last of sixty", most.chain(30, 59), 59);
    }

    private static void p18and19() {
        AshLines x = new AshLines();
        due("18 first", x.mountain(5, 0, 99, 50, 5), 1);
        due("18 anew", x.mountain(5, 1, 2, 3, 0), 0);
        due("18 unknown", x.mountain(6, 100, 0, 0, 0), UNKNOWN);
        due("18 unknown -1", x.mountain(-1, 0, 0, 0, 0), UNKNOWN);
        due("18 a", x.mountain(0, 100, 0, 0, 0), OUTSIDE);
        due("18 b", x.mountain(0, 0, -1, 0, 0), OUTSIDE);
        due("18 c", x.mountain(0, 0, 0, 100, 0), OUTSIDE);
        due("18 wander 6", x.mountain(0, 0, 0, 0, 6), OUTSIDE);
        due("18 wander -1", x.mountain(0, 0, 0, 0, -1), OUTSIDE);
        due("18 which", x.told(5), 32);
        due("19 untold mountain", x.place(0, 0, 20, 7), 0);
        due("19 as it was", x.place(0, 0, 0, 0), 2007);
        due("19 core", x.place(1, 5, 3, 20), 0);
        due("19 core as it was", x.place(1, 5, 3, 4), 320);
        due("19 not the mountain's", x.place(0, 5, 3, 4), 0);
        due("19 what ahead", x.place(2, 6, 0, 0), OUTSIDE);
        due("19 what -1", x.place(-1, 6, 0, 0), OUTSIDE);
        due("19 unknown", x.place(1, 6, 21, 0), UNKNOWN);
        due("19 unknown -1", x.place(0, -1, 0, 0), UNKNOWN);
        due("19 x", x.place(0, 0, 21, 0), OUTSIDE);
        due("19 x -1", x.place(0, 0, -1, 0), OUTSIDE);
        due("19 y", x.place(1, 0, 0, 21), OUTSIDE);
        due("19 y -1", x.place(1, 0, 0, -1), OUTSIDE);
        due("19 unchanged", x.place(0, 0, 0, 0), 0);
    }

    private static void p20() {
        AshLines x = sharp();
        x.grain(0, 0, 0, 50, 52, 55);
        x.mountain(1, 50, 50, 50, 0);
        due("20 weights", x.weight(0, 1), 9 * 7 * 4);
        x.mountain(1, 50, 50, 50, 3);
        due("20 wander", x.weight(0, 1), 9 * 9 * 7);
        x.mountain(1, 58, 52, 55, 0);
        due("20 one left", x.weight(0, 1), 81);
        x.mountain(1, 59, 52, 55, 0);
        due("20 none left", x.weight(0, 1), 0);
        x.mountain(1, 99, 52, 55, 0);
        due("20 none far off", x.weight(0, 1), 0);
        x.mountain(1, 59, 52, 55, 5);
        due("20 wander helps", x.weight(0, 1), 5 * 81);
        due("20 unknown mountain", x.weight(0, 0), UNKNOWN);
        due("20 mountain 6", x.weight(0, 6), UNKNOWN);
        due("20 mountain -1", x.weight(0, -1), UNKNOWN);
        due("20 unknown grain", x.weight(1, 1), UNKNOWN);
        due("20 grain -1", x.weight(-1, 1), UNKNOWN);
        AshLines odd = new AshLines();
        odd.slack(3);
        odd.piece(0, 0, 50, 52);
        odd.slack(0);
        odd.piece(0, 1, 50, 50);
        odd.piece(0, 2, 50, 50);
        odd.slack(1);
        odd.piece(0, 0, 50, 54);
        odd.slack(3);
        odd.piece(0, 0, 50, 56);
        due("20 odd least", odd.lean(0, 0, 0), 3);
        due("20 odd greatest", odd.lean(0, 0, 1), 5);
        odd.slack(2);
        odd.piece(0, 0, 50, 56);
        due("20 odd, least now", odd.lean(0, 0, 0), 4);
        odd.grain(0, 0, 0, 54, 50, 50);
        odd.mountain(0, 51, 50, 50, 0);
        due("20 half is cut", odd.weight(0, 0), 8 * 81);
        odd.mountain(0, 49, 50, 50, 0);
        due("20 half is cut below, too", odd.weight(0, 0), 9 * 81);
    }

    private static void p21() {
        AshLines x = sharp();
        for (int i = 0; i < 5; i++) x.grain(0, 0, 0, 50, 50, 50);
        x.grain(0, 0, 0, 99, 99, 99);
        x.grain(0, 1, 0, 20, 20, 20);
        x.mountain(0, 50, 50, 50, 0);
        due("21 alone", x.whose(0, 0, 0), 1);
        due("21 alone, lower", x.whose(0, 0, 1), 1);
        due("21 none fits", x.whose(1, 0, 0), 0);
        due("21 none fits, lower", x.whose(1, 0, 1), 1);
        x.mountain(1, 51, 50, 50, 0);
        due("21 upper", x.whose(0, 0, 0), 59049);
        due("21 lower", x.whose(0, 0, 1), 59049 + 32768);
        due("21 other upper", x.whose(0, 1, 0), 32768);
        for (int m = 1; m < 6; m++) x.mountain(m, 50, 50, 50, 0);
        due("21 six alike", x.whose(0, 3, 0), 1);
        due("21 six alike, lower", x.whose(0, 3, 1), 6);
        due("21 no grains", x.whose(2, 0, 9), LOST - 1);
        due("21 line", x.whose(144, 0, 0), LOST - 1);
        due("21 line -1", x.whose(-1, 0, 0), LOST - 1);
        due("21 mountain", x.whose(0, 6, 0), LOST - 1);
        due("21 part 2", x.whose(0, 0, 2), LOST - 2);
        due("21 part -1", x.whose(0, 0, -1), LOST - 2);
        AshLines y = withLines(0);
        due("21 no mountains", y.whose(0, 0, 0), LOST - 1);
    }

    private static void p22() {
        AshLines x = new AshLines();
        due("22 day", x.age(0, 9, 10, 10), 1);
        due("22 inch", x.age(1, 143, 0, 9999), 1);
        due("22 day net", x.net(0, 9, 1), 10);
        due("22 anew", x.age(0, 9, 5, 20), 1);
        due("22 anew net", x.net(0, 9, 1), 20);
        due("22 what ahead", x.age(2, 999, 0, 0), OUTSIDE);
        due("22 what -1", x.age(-1, 0, 0, 0), OUTSIDE);
        due("22 day 10", x.age(0, 10, 5, 0), UNKNOWN);
        due("22 day -1", x.age(0, -1, 0, 0), UNKNOWN);
        due("22 inch 144", x.age(1, 144, 0, 0), UNKNOWN);
        due("22 least above", x.age(1, 0, 6, 5), OUTSIDE);
        due("22 least -1", x.age(1, 0, -1, 5), OUTSIDE);
        due("22 greatest 10000", x.age(1, 0, 0, 10000), OUTSIDE);
        due("22 nothing changed", x.net(1, 0, 1), 9999);
    }

    private static void p23and24() {
        AshLines x = withLines(0, 143);
        due("23 none", x.tie(0, 9), NONE);
        due("23 was 9", x.tie(0, 0), 9);
        due("23 was 0", x.tie(0, -1), 0);
        due("23 none again", x.tie(0, -1), NONE);
        due("23 day 10", x.tie(0, 10), UNKNOWN);
        due("23 day -2", x.tie(0, -2), UNKNOWN);
        due("23 no grains", x.tie(1, 0), UNKNOWN);
        due("23 line", x.tie(144, 0), UNKNOWN);
        due("23 line -1", x.tie(-1, 0), UNKNOWN);
        due("23 no ties", x.told(4), 0);
        due("24 was not", x.sunk(143, true), 0);
        due("24 was", x.sunk(143, true), 1);
        due("24 back", x.sunk(143, false), 1);
        due("24 was not again", x.sunk(143, false), 0);
        due("24 no grains", x.sunk(1, true), UNKNOWN);
        due("24 line", x.sunk(144, true), UNKNOWN);
        due("24 line -1", x.sunk(-1, true), UNKNOWN);
        x.tie(0, 3);
        x.sunk(0, true);
        due("24 a sunk one is tied", x.told(4), 1);
        due("24 and keeps its day", x.tie(0, 4), 3);
    }

    private static void p25and26() {
        AshLines x = withLines(0, 5, 9, 30, 40, 50);
        x.tie(0, 1);
        x.tie(5, 2);
        x.tie(9, 3);
        due("25 above", x.above(1, 2), 1);
        due("25 not turned", x.above(2, 1), 0);
        due("25 over one", x.above(1, 3), 1);
        due("25 not itself", x.above(1, 1), 0);
        x.tie(30, 3);
        x.tie(40, 4);
        due("25 other core", x.above(3, 4), 1);
        due("25 not by steps", x.above(1, 4), 0);
        due("25 cores apart", x.above(4, 1), 0);
        due("26 true", x.untrue(), 0);
        x.tie(40, 2);
        due("26 ring of two", x.untrue(), 4 + 8);
        due("25 ring", x.above(3, 2), 1);
        x.tie(40, 1);
        due("26 ring of three", x.untrue(), 2 + 4 + 8);
        x.sunk(30, true);
        due("26 sunk", x.untrue(), 0);
        due("25 sunk", x.above(3, 1), 0);
        x.tie(40, 4);
        x.sunk(30, false);
        x.tie(30, 4);
        due("26 two lines of a core", x.untrue(), 16);
        due("25 itself by two lines of a core", x.above(4, 4), 1);
        due("25 day", x.above(10, 0), UNKNOWN);
        due("25 other", x.above(0, 10), UNKNOWN);
        due("25 day -1", x.above(-1, 0), UNKNOWN);
        due("25 other -1", x.above(0, -1), UNKNOWN);
    }

    private static void p27() {
        AshLines x = withLines(0, 1, 2, 24, 25, 48, 49);
        due("27 nothing", x.drop(0), 0);
        due("27 none", x.drop(1), 0);
        due("27 no line", x.drop(10), NONE);
        due("27 what 2", x.drop(2), OUTSIDE);
        due("27 what 9", x.drop(9), OUTSIDE);
        due("27 what 20", x.drop(20), OUTSIDE);
        due("27 what -1", x.drop(-1), OUTSIDE);
        x.tie(0, 0);
        x.tie(1, 1);
        x.tie(2, 2);
        x.tie(24, 2);
        x.tie(25, 0);
        x.tie(48, 2);
        x.tie(49, 0);
        due("27 untrue", x.untrue(), 7);
        due("27 least as bits", x.drop(0), 1);
        due("27 how many", x.drop(1), 1);
        due("27 a line", x.drop(13), 24);
        due("27 last line", x.drop(16), 49);
        due("27 no more", x.drop(17), NONE);
        x.sunk(0, true);
        due("27 sunk is none of them", x.drop(10), 1);
        due("27 sunk mends", x.drop(0), 0);
        x.sunk(0, false);
        x.tie(49, 1);
        due("27 one that mends two rings", x.drop(0), 4);
        due("27 and no more", x.drop(1), 1);
        x.tie(24, 1);
        x.tie(25, 0);
        x.tie(48, 2);
        x.tie(49, 0);
        due("27 the top one mends all", x.drop(0), 1);
        x = withLines(0, 1, 24, 25, 48, 49, 72, 73);
        int[] day = {0, 1, 1, 0, 2, 3, 3, 2};
        int[] at = {0, 1, 24, 25, 48, 49, 72, 73};
        for (int i = 0; i < 8; i++) x.tie(at[i], day[i]);
        due("27 two rings", x.drop(0), 1 + 16);
        due("27 two of them", x.drop(1), 2);
        int[] lines = new int[13];
        for (int i = 0; i < 13; i++) lines[i] = i;
        x = withLines(lines);
        for (int i = 0; i < 10; i++) x.tie(i, i);
        x.tie(10, 9);
        x.tie(11, 8);
        due("27 only the first ten", x.drop(0), (1 << 8) + (1 << 9));
        x.tie(12, 8);
        due("27 these do not do", x.drop(0), NO);
        due("27 these do not do, how many", x.drop(1), NO);
        due("27 lines all the same", x.drop(19), 9);
        x.sunk(12, true);
        due("27 a sunk one is left alone", x.drop(1), 2);
    }

    private static void p28() {
        AshLines x = withLines(5, 10, 30, 40);
        x.age(1, 3, 100, 200);
        due("28 below it least", x.net(1, 5, 0), 100);
        due("28 below it greatest", x.net(1, 5, 1), 9999);
        due("28 above it greatest", x.net(1, 2, 1), 200);
        due("28 other core", x.net(1, 24, 0), 0);
        x.tie(5, 7);
        due("28 day", x.net(0, 7, 0), 100);
        x.tie(30, 7);
        due("28 by the day", x.net(1, 31, 0), 100);
        x.age(0, 7, 0, 150);
        due("28 by years", x.net(1, 3, 1), 150);
        x.age(1, 24, 120, 140);
        due("28 round about", x.net(1, 10, 0), 120);
        due("28 round about, told", x.net(1, 3, 0), 100);
        x.sunk(30, true);
        due("28 sunk, no day", x.net(0, 7, 0), 100);
        due("28 sunk, no order", x.net(1, 30, 0), 0);
        due("28 passed by", x.net(1, 31, 0), 120);
        x.age(1, 30, 5000, 6000);
        due("28 sunk keeps what was told", x.net(1, 30, 1), 6000);
        due("28 sunk tells no other", x.net(1, 31, 0), 120);
        x.age(1, 10, 50, 60);
        due("28 clash", x.net(1, 100, 0), NO);
        due("28 clash of a day", x.net(0, 0, 0), NO);
        due("28 what ahead", x.net(2, 999, 9), OUTSIDE);
        due("28 what -1", x.net(-1, 0, 0), OUTSIDE);
        due("28 day 10", x.net(0, 10, 9), UNKNOWN);
        due("28 inch 144", x.net(1, 144, 0), UNKNOWN);
        due("28 inch -1", x.net(1, -1, 0), UNKNOWN);
        due("28 end ahead of clash", x.net(1, 0, 2), OUTSIDE);
        x.sunk(10, true);
        due("28 no clash with a sunk one", x.net(1, 10, 0), 50);
    }

    private static void p29() {
        AshLines x = withLines(0, 23, 30, 40);
        x.age(0, 1, 500, 600);
        x.tie(0, 1);
        due("29 lower end of all", x.gain(0), 24 * 500 + 9399);
        x.tie(23, 2);
        due("29 nothing", x.gain(23), 0);
        x.age(0, 2, 0, 1000);
        due("29 upper ends", x.gain(23), 23 * 8999);
        due("29 told, with it", x.gain(0), 24 * 500 + 400);
        x.tie(30, 1);
        due("29 other core", x.gain(30), 7 * 9399 + 18 * 500);
        due("29 no grains", x.gain(1), UNKNOWN);
        due("29 not tied", x.gain(40), UNKNOWN);
        due("29 line", x.gain(144), UNKNOWN);
        due("29 line -1", x.gain(-1), UNKNOWN);
        x.sunk(30, true);
        due("29 sunk", x.gain(30), UNKNOWN);
        x.age(1, 5, 0, 10);
        due("29 clash", x.gain(23), NO);
        due("29 clash, not without it", x.gain(0), NO);
    }

    private static void p30and31() {
        AshLines x = new AshLines();
        due("30 not told", x.born(0, 0), UNKNOWN);
        x.mountain(0, 1, 1, 1, 1);
        x.mountain(5, 1, 1, 1, 1);
        due("30 none", x.born(9, 5), NONE);
        due("30 was 5", x.born(9, 0), 5);
        due("30 was 0", x.born(9, -1), 0);
        due("30 none again", x.born(9, -1), NONE);
        due("30 day", x.born(10, 0), UNKNOWN);
        due("30 day -1", x.born(-1, 0), UNKNOWN);
        due("30 mountain 6", x.born(0, 6), UNKNOWN);
        due("30 mountain -2", x.born(0, -2), UNKNOWN);
        due("31 was 0", x.shade(9, 1, 2, 99), 0);
        due("31 was 99", x.shade(9, 1, 2, 0), 99);
        due("31 others", x.shade(9, 0, 2, 5), 0);
        due("31 other day", x.shade(8, 1, 2, 5), 0);
        due("31 day", x.shade(10, 2, 3, 100), UNKNOWN);
        due("31 day -1", x.shade(-1, 0, 0, 0), UNKNOWN);
        due("31 hour", x.shade(0, 2, 0, 0), OUTSIDE);
        due("31 hour -1", x.shade(0, -1, 0, 0), OUTSIDE);
        due("31 stuff", x.shade(0, 0, 3, 0), OUTSIDE);
        due("31 v", x.shade(0, 0, 0, 100), OUTSIDE);
        due("31 v -1", x.shade(0, 0, 0, -1), OUTSIDE);
    }

    private static void p32() {
        AshLines x = sharp();
        x.grain(0, 4, 0, 50, 50, 50);
        x.grain(0, 4, 0, 60, 50, 50);
        due("32 not tied", x.hour(4), UNKNOWN);
        x.tie(4, 3);
        due("32 all 0", x.hour(4), 2);
        int[] first = {48, 50, 50};
        int[] last = {61, 50, 50};
        for (int stuff = 0; stuff < 3; stuff++) {
            x.shade(3, 0, stuff, first[stuff]);
            x.shade(3, 1, stuff, last[stuff]);
        }
        due("32 last", x.hour(4), 1);
        x.shade(3, 0, 0, 50);
        due("32 first", x.hour(4), 0);
        x.shade(3, 1, 0, 55);
        due("32 both within", x.hour(4), 2);
        x.shade(3, 0, 1, 53);
        x.shade(3, 1, 2, 48);
        due("32 sums", x.hour(4), 1);
        x.shade(3, 1, 0, 63);
        due("32 sums over stuffs", x.hour(4), 0);
        x.sunk(4, true);
        due("32 sunk all the same", x.hour(4), 0);
        due("32 no grains", x.hour(5), UNKNOWN);
        due("32 line", x.hour(144), UNKNOWN);
        due("32 line -1", x.hour(-1), UNKNOWN);
    }

    private static void p33() {
        AshLines x = new AshLines();
        x.mountain(2, 0, 0, 0, 0);
        x.place(0, 2, 10, 10);
        x.place(1, 3, 10, 10);
        due("33 one place", x.way(2, 3), NONE);
        int[][] to = {
            {10, 9, 0}, {11, 7, 0}, {11, 8, 1}, {12, 9, 1}, {13, 9, 2}, {20, 10, 2}, {13, 11, 2}, {12, 11, 3}, {11, 12, 3},
            {11, 13, 4}, {10, 20, 4}, {9, 13, 4}, {9, 12, 5}, {8, 11, 5}, {7, 11, 6}, {0, 10, 6}, {7, 9, 6}, {8, 9, 7},
            {9, 8, 7}, {9, 7, 0}, {20, 20, 3}, {0, 0, 7}, {20, 0, 1}, {0, 20, 5}
        };
        for (int[] t : to) {
            x.place(1, 3, t[0], t[1]);
            due("33 to " + t[0] + ", " + t[1], x.way(2, 3), t[2]);
        }
        due("33 not told", x.way(0, 3), UNKNOWN);
        due("33 mountain", x.way(6, 3), UNKNOWN);
        due("33 mountain -1", x.way(-1, 3), UNKNOWN);
        due("33 core", x.way(2, 6), UNKNOWN);
        due("33 core -1", x.way(2, -1), UNKNOWN);
    }

    private static void p34() {
        AshLines x = sharp();
        x.mountain(0, 0, 0, 0, 0);
        x.place(0, 0, 10, 10);
        x.place(1, 0, 10, 0);
        x.place(1, 1, 20, 10);
        x.place(1, 2, 0, 20);
        x.place(1, 3, 10, 10);
        for (int core = 0; core < 4; core++) x.grain(core, 2, 0, core == 1 ? 80 : 20, 50, 50);
        x.grain(2, 9, 0, 50, 50, 50);
        for (int stuff = 0; stuff < 3; stuff++) {
            x.shade(4, 0, stuff, stuff == 0 ? 20 : 50);
            x.shade(4, 1, stuff, stuff == 0 ? 80 : 50);
        }
        due("34 state", x.winds(4, 0), STATE);
        due("34 outside ahead", x.winds(4, 2), OUTSIDE);
        x.born(4, 0);
        due("34 no lines", x.winds(4, 0), 0);
        for (int core = 0; core < 4; core++) x.tie(core * 24 + 2, 4);
        due("34 first hour", x.winds(4, 0), 1 + 32);
        due("34 last hour", x.winds(4, 1), 4);
        x.tie(57, 4);
        due("34 either hour", x.winds(4, 1), 4 + 32);
        x.tie(2, 5);
        due("34 not its line", x.winds(4, 0), 32);
        x.sunk(26, true);
        due("34 sunk all the same", x.winds(4, 1), 4 + 32);
        x.born(4, -1);
        due("34 state again", x.winds(4, 0), STATE);
        due("34 day", x.winds(10, 2), UNKNOWN);
        due("34 day -1", x.winds(-1, 0), UNKNOWN);
        due("34 hour -1", x.winds(4, -1), OUTSIDE);
    }

    private static void p35to37() {
        AshLines x = withLines(0, 1, 2, 143);
        due("35 none", x.name(0, 7), NONE);
        due("35 was 7", x.name(0, 0), 7);
        due("35 was 0", x.name(0, -1), 0);
        due("35 none again", x.name(0, 7), NONE);
        due("35 name 8", x.name(0, 8), UNKNOWN);
        due("35 name -2", x.name(0, -2), UNKNOWN);
        due("35 no grains", x.name(3, 0), UNKNOWN);
        due("35 line", x.name(144, 0), UNKNOWN);
        due("35 line -1", x.name(-1, 0), UNKNOWN);
        x.name(1, 7);
        x.name(2, 7);
        x.name(143, 0);
        due("36 not tied", x.several(), 0);
        x.tie(0, 3);
        due("36 one day", x.several(), 0);
        x.tie(1, 3);
        due("36 same day", x.several(), 0);
        x.tie(2, 4);
        due("36 two days", x.several(), 128);
        x.tie(143, 4);
        due("37 two names", x.called(4), 2);
        due("37 one name twice", x.called(3), 1);
        due("37 no lines", x.called(0), 0);
        x.name(143, -1);
        due("37 a line without a name", x.called(4), 1);
        due("37 day", x.called(10), UNKNOWN);
        due("37 day -1", x.called(-1), UNKNOWN);
        x.sunk(2, true);
        due("36 sunk all the same", x.several(), 128);
        due("37 sunk all the same", x.called(4), 1);
    }

    private static void p38() {
        AshLines x = withLines(5, 30, 33, 60, 80);
        due("38 deeper", x.first(9, 2), 1);
        due("38 higher", x.first(2, 9), 2);
        due("38 other core", x.first(9, 30), 0);
        x.tie(5, 0);
        x.tie(30, 0);
        due("38 of one day", x.first(5, 30), 0);
        due("38 by the day", x.first(6, 30), 1);
        due("38 by the day, further", x.first(6, 29), 1);
        due("38 from the day", x.first(5, 29), 1);
        due("38 turned", x.first(29, 5), 2);
        due("38 not below it", x.first(6, 31), 0);
        x.tie(33, 1);
        x.tie(60, 1);
        due("38 by two days", x.first(61, 4), 1);
        due("38 by two days, from the tie", x.first(60, 5), 1);
        due("38 not so", x.first(59, 5), 0);
        x.sunk(30, true);
        due("38 a sunk one leads nowhere", x.first(61, 4), 0);
        due("38 a sunk one is no younger", x.first(33, 30), 0);
        due("38 nor older", x.first(30, 24), 0);
        due("38 passed by", x.first(31, 29), 1);
        x.age(1, 80, 400, 500);
        x.age(1, 3, 0, 399);
        due("38 by ages", x.first(80, 3), 1);
        due("38 by ages below", x.first(90, 0), 1);
        due("38 by ages turned", x.first(0, 90), 2);
        x.age(1, 3, 0, 400);
        due("38 by ages that touch", x.first(80, 3), 0);
        x.age(1, 30, 7000, 7001);
        due("38 a sunk one by its ages", x.first(30, 3), 1);
    }

    private static void p38refusals() {
        AshLines x = withLines(0, 1, 24, 25);
        due("38 both one", x.first(7, 7), UNKNOWN);
        due("38 beyond", x.first(144, 7), UNKNOWN);
        due("38 other beyond", x.first(7, 144), UNKNOWN);
        due("38 below", x.first(-1, 7), UNKNOWN);
        due("38 other below", x.first(7, -1), UNKNOWN);
        x.tie(0, 0);
        x.tie(1, 1);
        x.tie(24, 1);
        x.tie(25, 0);
        due("38 untrue", x.first(100, 90), NO);
        due("38 unknown ahead", x.first(100, 100), UNKNOWN);
        x.tie(25, -1);
        due("38 true", x.first(100, 99), 1);
        x.age(1, 100, 0, 5);
        x.age(1, 99, 6, 7);
        due("38 clash", x.first(30, 29), NO);
    }

    private static void p39() {
        AshLines x = sharp();
        x.grain(0, 5, 0, 50, 50, 50);
        due("39 alone", x.washed(5), 0);
        x.grain(0, 9, 0, 49, 50, 50);
        x.grain(0, 9, 0, 51, 50, 50);
        due("39 washed", x.washed(5), 1);
        due("39 not the lower", x.washed(9), 0);
        x.grain(0, 5, 0, 50, 50, 50);
        due("39 as many grains", x.washed(5), 0);
        x.grain(0, 9, 0, 51, 50, 50);
        due("39 more again", x.washed(5), 1);
        x.grain(0, 5, 0, 50, 50, 51);
        x.grain(0, 9, 0, 51, 50, 50);
        due("39 one stuff out", x.washed(5), 0);
        x.grain(0, 9, 0, 51, 50, 52);
        due("39 within again", x.washed(5), 1);
        x.sunk(9, true);
        due("39 sunk all the same", x.washed(5), 1);
        x.grain(1, 0, 0, 50, 50, 50);
        due("39 other core", x.washed(24), 0);
        x.grain(1, 23, 0, 50, 50, 50);
        x.grain(1, 23, 0, 50, 50, 50);
        due("39 same glass", x.washed(24), 1);
        x.grain(0, 23, 0, 50, 50, 50);
        due("39 the next core is another one", x.washed(23), 0);
        due("39 no grains", x.washed(6), UNKNOWN);
        due("39 line", x.washed(144), UNKNOWN);
        due("39 line -1", x.washed(-1), UNKNOWN);
        due("39 last inch", x.washed(47), 0);
    }

    private static void p40and41() {
        AshLines x = new AshLines();
        due("40 finds", x.look(5, 9, 10), 0);
        due("40 was 10", x.look(5, 9, 3), 10);
        due("40 cost", x.look(5, 10, 99), 0);
        due("40 cost was 99", x.look(5, 10, 0), 99);
        due("40 core", x.look(6, 11, 0), UNKNOWN);
        due("40 core -1", x.look(-1, 0, 0), UNKNOWN);
        due("40 what -1", x.look(0, -1, 0), OUTSIDE);
        due("40 what 11", x.look(0, 11, 0), OUTSIDE);
        due("40 finds 11", x.look(0, 0, 11), OUTSIDE);
        due("40 finds -1", x.look(0, 0, -1), OUTSIDE);
        due("40 cost 100", x.look(0, 10, 100), OUTSIDE);
        due("40 cost -1", x.look(0, 10, -1), OUTSIDE);
        due("41 none", x.worth(31, 0), 0);
        due("41 none, lower", x.worth(31, 1), 1);
        due("41 one", x.worth(32, 0), 3);
        due("41 one, lower", x.worth(32, 1), 10);
        x.look(4, 9, 5);
        due("41 two cores", x.worth(48, 0), 13);
        due("41 two cores, lower", x.worth(48, 1), 20);
        for (int core = 0; core < 6; core++) x.look(core, 0, 1);
        due("41 six cores", x.worth(63, 0), 468559 + 650000);
        due("41 six cores, lower", x.worth(63, 1), 1000000);
        for (int day = 0; day < 10; day++) x.look(0, day, 10);
        due("41 all days", x.worth(63, 0), 10);
        due("41 all days, lower", x.worth(63, 1), 1);
        due("41 cores 64", x.worth(64, 0), LOST - 2);
        due("41 cores -1", x.worth(-1, 0), LOST - 2);
        due("41 part 2", x.worth(0, 2), LOST - 2);
        due("41 part -1", x.worth(0, -1), LOST - 2);
    }

    private static void p42() {
        AshLines x = new AshLines();
        due("42 nothing to find", x.next(600, 0), 0);
        x.look(0, 10, 10);
        x.look(1, 10, 20);
        x.look(2, 10, 10);
        x.look(0, 3, 5);
        x.look(1, 3, 6);
        x.look(2, 3, 5);
        due("42 purse of 9", x.next(9, 0), 0);
        due("42 least as bits", x.next(10, 0), 1);
        due("42 its cost", x.next(10, 1), 10);
        due("42 two", x.next(20, 0), 5);
        due("42 most worth", x.next(30, 0), 3);
        due("42 all", x.next(40, 0), 7);
        due("42 all's cost", x.next(600, 1), 40);
        x.look(1, 3, 10);
        due("42 least cost", x.next(600, 0), 2);
        x.look(2, 10, 9);
        x.look(1, 3, 0);
        due("42 least cost of two", x.next(12, 0), 4);
        x.look(5, 10, 0);
        due("42 one that costs and finds nothing", x.next(12, 0), 4);
        due("42 purse -1", x.next(-1, 0), OUTSIDE);
        due("42 purse 601", x.next(601, 0), OUTSIDE);
        due("42 what 2", x.next(0, 2), OUTSIDE);
        due("42 what -1", x.next(0, -1), OUTSIDE);
    }

    private static void p43() {
        AshLines x = withLines(0, 1);
        x.piece(0, 0, 50, 50);
        x.round(0, 1, 0, 50, 50);
        x.slack(2);
        x.tie(0, 0);
        x.mountain(0, 0, 0, 0, 0);
        x.mountain(4, 0, 0, 0, 0);
        ruled(x, "a<1|b<1|c<1");
        say(x, "xyz!");
        due("43 grains", x.told(0), 2);
        due("43 pieces", x.told(1), 2);
        due("43 signs", x.told(2), 4);
        due("43 slack", x.told(3), 2);
        due("43 ties", x.told(4), 1);
        due("43 mountains", x.told(5), 17);
        due("43 boths", x.told(6), 3);
        due("43 no clash", x.told(7), 0);
        x.age(1, 0, 9, 9);
        x.age(1, 1, 8, 8);
        due("43 clash", x.told(7), 1);
        due("43 what 8", x.told(8), OUTSIDE);
        due("43 what -1", x.told(-1), OUTSIDE);
    }
}
