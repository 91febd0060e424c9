/** Edges of promises 10 to 17, a test for each sentence that names one: rules. */
public final class RulesEdgesTest {
    private static final int UNKNOWN = Ash.UNKNOWN, OUTSIDE = Ash.OUTSIDE, STATE = Ash.STATE, FULL = Ash.FULL, NO = Ash.NO, NONE = Ash.NONE;
    private static final int LEAST = Ash.LEAST, MOST = Ash.MOST;
    private static final String FACTS = "gabcy", COMPARES = "<>=", DIGITS = "0123456789", JOINS = "&|";

    /** Fifty signs without a fault, twelve tests. */
    private static final String FIFTY = "a<1&a<1&a<1&a<1&a<1&a<1&a<1&a<1&a<1&a<1&a<11&a<111";
    private static final Check check = new Check();

    private static Ash ash(String test) {
        return new Ash(check, test);
    }

    private static Ash sharp(String test) {
        return ash(test).sharp();
    }

    public static void main(String[] args) {
        signs();
        fiftySigns();
        wiping();
        whatCanStand();
        theFirstFault();
        moreMustCome();
        ruleRefused();
        ruleTaken();
        bothsCounted();
        gapOfSpans();
        gapOfAges();
        gapRefused();
        testsAtTheirEdges();
        factsAtTheirEdges();
        someBothAllTests();
        alikeRefused();
        chainEnds();
        chainRefused();
        brokenEdges();
        brokenRefused();
        check.named(10, 17);
        check.end("RulesEdgesTest");
    }

    // ---- 10 and 11

    private static void signs() {
        ash("10 OUTSIDE: codes 33 to 126").refuses("say 32", OUTSIDE).refuses("say 127", OUTSIDE).refuses("say 0", OUTSIDE).refuses("say -1", OUTSIDE)
            .refuses("say " + LEAST, OUTSIDE).refuses("say " + MOST, OUTSIDE).refuses("say 353", OUTSIDE).is("told 2", 0)
            .is("say 33", 1).is("say 126", 2).is("told 2", 2);
    }

    private static void fiftySigns() {
        Ash x = ash("10 FULL: up to 50 signs");
        for (int i = 0; i < 50; i++) x.is("say " + (int) FIFTY.charAt(i), i + 1);
        x.refuses("say 97", FULL).refuses("say 126", FULL).is("told 2", 50).is("fault", NONE);
        x.refuses("say 32", OUTSIDE).refuses("say 127", OUTSIDE);
        x.is("rule", 1).is("told 2", 0).is("say 97", 1);
    }

    private static void wiping() {
        ash("11 there were none").is("wipe", 0).is("wipe", 0);
        Ash x = ash("11 there were fifty, and fifty can be said again").tell(50, "say 126").is("wipe", 50).is("told 2", 0).is("fault", 0);
        for (int i = 1; i <= 50; i++) x.is("say 33", i);
        x.refuses("say 33", FULL).is("wipe", 50);
        ash("11 signs go, the RULE stays").tell("grain 0 0 0 50 50 50", "grain 0 1 0 50 50 50").rule("a<1|b<1").say("a<").is("wipe", 2)
            .is("told 6", 2)
            .is("alike 0 1", 1).is("wipe", 0).is("told 6", 2);
        ash("11 what was wiped is not in the next RULE").say("a<1|").is("wipe", 4).say("b<1").is("rule", 1).is("wipe", 0);
    }

    // ---- 12

    private static void whatCanStand() {
        String[] begun = {"", "g", "y>", "a<1", "b=12", "c>123", "a<1&", "a<1|", "a<12&", "b=999|c>000&y"};
        String[] next = {FACTS, COMPARES, DIGITS, DIGITS + JOINS, DIGITS + JOINS, JOINS, FACTS, FACTS, FACTS, COMPARES};
        for (int i = 0; i < begun.length; i++) {
            for (char sign = 33; sign < 127; sign++) {
                int due = NONE;
                if (next[i].indexOf(sign) < 0) due = begun[i].length();
                else if (DIGITS.indexOf(sign) < 0) due = begun[i].length() + 1;
                ash("12 THE FAULT of " + begun[i] + sign).say(begun[i] + sign).is("fault", due).is("fault", due).is("told 2", begun[i].length() + 1);
            }
        }
    }

    private static void fault(String why, String text, int due) {
        ash("12 " + why + ": " + text).say(text).is("fault", due);
    }

    private static void theFirstFault() {
        fault("the first of several", "a<1xx", 3);
        fault("the first of several, though more must come", "a<&", 2);
        fault("at place 0", "!", 0);
        fault("at place 0, whatever follows", "<a<1", 0);
        fault("at the last place", "a<1&a<1&a<1&a<1&a<1&a<1&a<1&a<1&a<1&a<1&a<11&a<11a", 49);
        fault("a fourth digit at the last place", "a<1&a<1&a<1&a<1&a<1&a<1&a<1&a<1&a<1&a<1&a<1&a<1111", 49);
        fault("no fault in fifty signs", FIFTY, NONE);
        fault("a fourth digit", "a<0000", 5);
        fault("great letters are no facts", "G<1", 0);
        fault("two tests without a sign between", "a<1b<1", 3);
        fault("two signs between", "a<1&|b<1", 4);
        fault("a both is empty", "a<1||b<1", 4);
    }

    private static void moreMustCome() {
        fault("more must come, none said", "", 0);
        fault("more must come after a fact", "a", 1);
        fault("more must come after a comparison", "a<", 2);
        fault("more must come after &", "a<1&", 4);
        fault("more must come after |", "a<1|", 4);
        fault("more must come after fifty, a fact", FIFTY.substring(0, 49) + "&", 50);
        fault("more must come after fifty, a comparison", "a<1&".repeat(11) + "a<11&a", 50);
        fault("more must come after fifty, a digit", "a<1&".repeat(12) + "a<", 50);
        ash("12 no signs are left after a RULE").rule("a<1").is("fault", 0);
    }

    // ---- 13

    private static void ruleRefused() {
        ash("13 NO: there is a FAULT, no signs").refuses("rule", NO).is("told 6", 0).is("broken", STATE);
        ash("13 NO: there is a FAULT, a sign that can not stand").say("a<x").refuses("rule", NO).is("told 2", 3).is("fault", 2).is("told 6", 0);
        ash("13 NO: there is a FAULT, more must come").say("a<1&").refuses("rule", NO).is("told 2", 4).is("told 6", 0).say("b<1").is("rule", 1);
        ash("13 NO: the RULE that was stays").tell("grain 0 0 0 50 50 50", "grain 0 1 0 50 50 50").rule("a<1|b<1|c<1").say("a>9|a")
            .refuses("rule", NO)
            .is("told 6", 3).is("alike 0 1", 1).is("told 2", 5);
        ash("13 NO: once more without signs").rule("a<1|b<1").refuses("rule", NO).is("told 6", 2);
    }

    private static void ruleTaken() {
        ash("13 the RULE is the signs', they are empty then").say("a<1").is("rule", 1).is("told 2", 0).is("wipe", 0).is("told 6", 1);
        ash("13 a RULE in place of another").tell("grain 0 0 0 50 50 50", "grain 0 1 0 50 50 50").rule("a<1|b<1").is("alike 0 1", 1)
            .rule("a>0").is("told 6", 1).is("alike 0 1", 0).rule("a=0&b=0|g>9").is("told 6", 2).is("alike 0 1", 1);
        ash("13 a shorter RULE keeps nothing of a longer one").tell("grain 0 0 0 50 50 50", "grain 0 1 0 50 50 50").rule("a>99|b>99|c>99|a=0")
            .is("alike 0 1", 1)
            .rule("a>99").is("alike 0 1", 0).rule("a=999").is("alike 0 1", 0).rule("a=0").is("alike 0 1", 1);
        ash("13 said signs are not yet the RULE").tell("grain 0 0 0 50 50 50", "grain 0 1 0 50 50 50").rule("a<1").say("a>9").is("alike 0 1", 1)
            .is("rule", 1).is("alike 0 1", 0);
    }

    private static void bothsCounted() {
        ash("13 BOTHS: one").say("a<1&b<1&c<1").is("rule", 1).is("told 6", 1);
        ash("13 BOTHS: two").say("a<1&b<1|c<1").is("rule", 2).is("told 6", 2);
        ash("13 BOTHS: twelve fit into fifty signs").say("a<1|a<1|a<1|a<1|a<1|a<1|a<1|a<1|a<1|a<1|a<11|a<111").is("told 2", 50).is("rule", 12)
            .is("told 6", 12);
        ash("13 BOTHS: one of twelve TESTS").say(FIFTY).is("rule", 1).is("told 6", 1);
    }

    // ---- 14

    private static void gapOfSpans() {
        sharp("14 GAP: 0, if some number is in both")
            .tell("grain 0 0 0 50 10 20", "grain 0 0 0 60 20 20", "grain 0 1 0 60 20 30", "grain 0 1 0 70 15 10")
            .are(0, "gap 0 1 0", "gap 1 0 0", "gap 0 1 1", "gap 1 0 1", "gap 0 1 2", "gap 1 0 2");
        sharp("14 GAP: the greater one's least less the other one's greatest")
            .tell("grain 0 0 0 50 10 0", "grain 0 0 0 60 20 0", "grain 0 1 0 61 5 99", "grain 0 1 0 70 9 99")
            .are(1, "gap 0 1 0", "gap 1 0 0", "gap 0 1 1", "gap 1 0 1").are(99, "gap 0 1 2", "gap 1 0 2");
        ash("14 GAP by LEANS that are not known").tell("grain 0 0 0 0 50 50", "grain 5 23 2 99 50 69", "slack 0").is("gap 0 143 0", 81)
            .is("gap 0 143 1", 0)
            .is("gap 0 143 2", 1).tell("slack 1").is("gap 0 143 2", 0).tell("slack 3").is("gap 143 0 0", 75);
    }

    private static void gapOfAges() {
        ash("14 GAP of AGES: at most 9999").tell("grain 0 0 0 50 50 50", "grain 5 23 0 50 50 50").is("gap 0 143 3", 0)
            .tell("age 1 0 0 0", "age 1 143 9999 9999")
            .are(9999, "gap 0 143 3", "gap 143 0 3");
        ash("14 GAP of AGES: touching, and one year apart").tell("grain 0 0 0 50 50 50", "grain 1 0 0 50 50 50")
            .tell("age 1 0 5 10", "age 1 24 10 20").is("gap 0 24 3", 0)
            .tell("age 1 24 11 20").is("gap 0 24 3", 1).is("gap 24 0 3", 1);
        ash("14 GAP of AGES in THE NET, not as told").tell("grain 0 5 0 50 50 50", "grain 1 0 0 50 50 50", "age 1 4 100 200", "age 1 24 0 70")
            .is("gap 5 24 3", 30);
    }

    private static void gapRefused() {
        Ash x = ash("14 UNKNOWN: not two LINES, both are one").tell("grain 0 0 0 50 50 50", "grain 5 23 0 50 50 50");
        x.refuses("gap 0 0 0", UNKNOWN).refuses("gap 143 143 3", UNKNOWN).refuses("gap 0 1 0", UNKNOWN).refuses("gap 1 0 0", UNKNOWN)
            .refuses("gap 1 1 0", UNKNOWN)
            .refuses("gap -1 0 0", UNKNOWN).refuses("gap 0 144 0", UNKNOWN).refuses("gap " + LEAST + " 0 0", UNKNOWN)
            .refuses("gap 0 " + MOST + " 0", UNKNOWN);
        x.refuses("gap 0 0 4", UNKNOWN).refuses("gap 0 1 -1", UNKNOWN).is("gap 0 143 0", 0).is("gap 0 143 3", 0);
        x = ash("14 OUTSIDE: STUFFS 0 to 2, 3").tell("grain 0 0 0 50 50 50", "grain 5 23 0 50 50 50");
        x.refuses("gap 0 143 4", OUTSIDE).refuses("gap 0 143 -1", OUTSIDE).refuses("gap 0 143 " + LEAST, OUTSIDE)
            .refuses("gap 0 143 " + MOST, OUTSIDE);
        x = ash("14 NO: CLASH (3)").tell("grain 0 0 0 50 50 50", "grain 5 23 0 50 50 50", "age 1 60 5 5", "age 1 61 4 4");
        x.refuses("gap 0 143 3", NO).refuses("gap 0 143 4", OUTSIDE).refuses("gap 0 0 3", UNKNOWN).are(0, "gap 0 143 0", "gap 0 143 1", "gap 0 143 2")
            .tell("age 1 61 5 5").is("gap 0 143 3", 0);
        ash("14 no LINES yet").refuses("gap 0 1 0", UNKNOWN).refuses("gap 0 0 0", UNKNOWN);
    }

    // ---- 15

    /** Line 0 has 2 grains and glass 10, 0, 0; line 24 has 3 and glass 15, 99, 7. */
    private static Ash two(String test) {
        return sharp(test).tell(2, "grain 0 0 0 10 0 0").tell(3, "grain 1 0 0 15 99 7");
    }

    private static void rules(Ash x, String text, int due) {
        x.rule(text).is("alike 0 24", due).is("alike 24 0", due);
    }

    private static void testsAtTheirEdges() {
        String[] facts = {"g", "a", "b", "c"};
        int[] values = {2, 5, 99, 7};
        for (int i = 0; i < 4; i++) {
            int v = values[i];
            Ash x = two("15 <, > and = at the number itself and next to it, " + facts[i]);
            rules(x, facts[i] + "<" + v, 0);
            rules(x, facts[i] + "<" + (v + 1), 1);
            rules(x, facts[i] + ">" + v, 0);
            rules(x, facts[i] + ">" + (v - 1), 1);
            rules(x, facts[i] + "=" + v, 1);
            rules(x, facts[i] + "=" + (v + 1), 0);
            rules(x, facts[i] + "=" + (v - 1), 0);
        }
        Ash x = two("15 1 to 3 digits");
        rules(x, "a=5", 1);
        rules(x, "a=05", 1);
        rules(x, "a=005", 1);
        rules(x, "a=50", 0);
        rules(x, "a=500", 0);
        rules(x, "a<999", 1);
        rules(x, "a>000", 1);
        rules(x, "b=099", 1);
        rules(x, "b=990", 0);
    }

    private static void factsAtTheirEdges() {
        Ash x = two("15 y: GAPS of AGES beyond three digits").tell("age 1 0 0 0", "age 1 24 999 9999");
        rules(x, "y=999", 1);
        rules(x, "y>999", 0);
        rules(x, "y<999", 0);
        x.tell("age 1 24 1000 9999");
        rules(x, "y>999", 1);
        rules(x, "y=999", 0);
        x.tell("age 1 24 9999 9999");
        rules(x, "y>999", 1);
        rules(x, "y=0", 0);
        x = two("15 y: AGES that touch").tell("age 1 0 0 7", "age 1 24 7 9");
        rules(x, "y=0", 1);
        rules(x, "y<1", 1);
        rules(x, "y<0", 0);
        x = sharp("15 g: the one that has fewer GRAINS, 1 to 30").tell(30, "grain 0 0 0 50 50 50").tell(29, "grain 1 0 0 50 50 50");
        rules(x, "g=29", 1);
        x.tell("grain 1 0 0 50 50 50");
        rules(x, "g=30", 1);
        x = sharp("15 g: as many as the line with one").tell("grain 0 0 0 50 50 50").tell(59, "grain 1 0 0 50 50 50");
        rules(x, "g=1", 1);
        rules(x, "g>1", 0);
        rules(x, "g<1", 0);
    }

    private static void someBothAllTests() {
        Ash x = two("15 some BOTH is so: all of its TESTS are");
        rules(x, "a=5&b=99&c=7&g=2", 1);
        rules(x, "a=4&b=99&c=7&g=2", 0);
        rules(x, "a=5&b=99&c=7&g=3", 0);
        rules(x, "a=4|b=99", 1);
        rules(x, "a=5|b=98", 1);
        rules(x, "a=4|b=98", 0);
        rules(x, "a=5&b=98|a=4&b=99", 0);
        rules(x, "a=5&b=98|a=5&b=99", 1);
        rules(x, "a=4|a=4|a=4|a=4|a=4|a=4|a=4|a=4|a=4|a=4|a=44|a=005", 1);
        rules(x, "a=5&a=5&a=5&a=5&a=5&a=5&a=5&a=5&a=5&a=5&a=05&a=004", 0);
    }

    private static void alikeRefused() {
        Ash x = two("15 STATE: no RULE").refuses("alike 0 24", STATE).refuses("alike 0 0", UNKNOWN).refuses("alike 0 1", UNKNOWN);
        x.say("a<9&").is("rule", NO).refuses("alike 0 24", STATE).say("b").refuses("alike 0 24", STATE);
        two("15 STATE ahead of NO").tell("age 1 60 5 5", "age 1 61 4 4").refuses("alike 0 24", STATE);
        x = two("15 UNKNOWN, likewise").rule("a<9");
        x.refuses("alike 0 0", UNKNOWN).refuses("alike 0 1", UNKNOWN).refuses("alike 1 0", UNKNOWN).refuses("alike 23 24", UNKNOWN)
            .refuses("alike -1 0", UNKNOWN)
            .refuses("alike 0 144", UNKNOWN).refuses("alike " + LEAST + " 0", UNKNOWN).refuses("alike 0 " + MOST, UNKNOWN).is("alike 0 24", 1);
        x = two("15 NO: CLASH (if the RULE has a y)").tell("age 1 60 5 5", "age 1 61 4 4").rule("a<9").is("alike 0 24", 1).rule("a<9|y<9");
        x.refuses("alike 0 24", NO).refuses("alike 0 1", UNKNOWN).refuses("alike 24 24", UNKNOWN).rule("a>9&y<9").refuses("alike 0 24", NO)
            .rule("a>9").is("alike 0 24", 0);
        x.rule("y=0").refuses("alike 0 24", NO).tell("age 1 61 5 5").is("alike 0 24", 1);
        two("15 no CLASH by said signs that have a y").tell("age 1 60 5 5", "age 1 61 4 4").rule("a<9").say("y<9").is("alike 0 24", 1);
    }

    // ---- 16

    private static void chainEnds() {
        sharp("16 a LINE alone").tell("grain 5 23 0 50 50 50").rule("a<1").is("chain 143 -1", 1).is("chain 143 0", 143).is("chain 143 1", NONE);
        Ash x = sharp("16 the i-th by numbers; NONE").tell("grain 5 23 0 14 0 0", "grain 0 0 0 12 0 0", "grain 2 5 0 10 0 0", "grain 3 0 0 90 0 0")
            .rule("a<3");
        for (int line : new int[] {0, 53, 143}) {
            x.is("chain " + line + " -1", 3).is("chain " + line + " 0", 0).is("chain " + line + " 1", 53).is("chain " + line + " 2", 143);
            x.are(NONE, "chain " + line + " 3", "chain " + line + " -2", "chain " + line + " " + LEAST, "chain " + line + " " + MOST);
        }
        x.is("chain 72 -1", 1).is("chain 72 0", 72);
        x = sharp("16 sixty LINES in one CHAIN");
        for (int i = 0; i < 60; i++) x.tell("grain " + i / 10 + " " + i % 10 + " 0 " + (i * 37 % 60) + " 0 0");
        x.rule("a<2").is("chain 0 -1", 60).is("chain 0 59", 129).is("chain 129 0", 0).is("chain 50 58", 128).is("chain 129 60", NONE);
        x.rule("a<1").is("chain 0 -1", 1).is("chain 129 0", 129).is("chain 129 1", NONE);
    }

    private static void chainRefused() {
        Ash x = sharp("16 UNKNOWN").tell("grain 0 0 0 50 50 50").rule("a<1");
        x.refuses("chain 1 -1", UNKNOWN).refuses("chain -1 -1", UNKNOWN).refuses("chain 144 0", UNKNOWN).refuses("chain " + LEAST + " 0", UNKNOWN)
            .refuses("chain " + MOST + " -2", UNKNOWN);
        x = sharp("16 STATE").tell("grain 0 0 0 50 50 50");
        x.refuses("chain 0 -1", STATE).refuses("chain 0 5", STATE).refuses("chain 1 0", UNKNOWN);
        x.tell("age 1 60 5 5", "age 1 61 4 4").refuses("chain 0 -1", STATE);
        x.rule("y=0").refuses("chain 0 -1", NO).refuses("chain 0 0", NO).refuses("chain 0 9", NO).refuses("chain 1 0", UNKNOWN).rule("g>0")
            .is("chain 0 -1", 1);
    }

    // ---- 17

    private static void brokenEdges() {
        Ash x = sharp("17 how many LINES are BROKEN").rule("a<3").is("broken", 0);
        x.tell("grain 0 0 0 10 0 0").is("broken", 0).tell("grain 1 0 0 12 0 0").is("broken", 0).tell("grain 2 0 0 15 0 0").is("broken", 0);
        x.tell("grain 3 0 0 14 0 0").is("broken", 4).is("chain 0 -1", 4);
        x.tell("grain 5 23 0 90 0 0").is("broken", 4).tell("grain 5 22 0 91 0 0").is("broken", 4).tell("grain 5 21 0 93 0 0").is("broken", 7);
        x.rule("a<6").is("broken", 0).rule("a<100").is("broken", 0).rule("a<0").is("broken", 0);
        x = sharp("17 two CHAINS whose LINES lie in turns");
        for (int i = 0; i < 8; i++) x.tell("grain " + i / 4 + " " + i % 4 + " 0 " + (i % 2 == 0 ? i : 90 + i) + " 0 0");
        x.rule("a<3").is("broken", 8).is("chain 0 -1", 4).is("chain 1 -1", 4).is("chain 1 3", 27).rule("a<7").is("broken", 0);
        x = sharp("17 sixty LINES, all but one pair ALIKE");
        for (int i = 0; i < 60; i++) x.tell("grain " + i / 10 + " " + i % 10 + " 0 " + (i == 0 ? 0 : i == 59 ? 2 : 1) + " 0 0");
        x.rule("a<2").is("broken", 60).rule("a<3").is("broken", 0).rule("a=0").is("broken", 0);
    }

    private static void brokenRefused() {
        Ash x = sharp("17 STATE, NO, likewise").refuses("broken", STATE).tell("age 1 60 5 5", "age 1 61 4 4").refuses("broken", STATE);
        x.rule("y<9").refuses("broken", NO).rule("a<9").is("broken", 0).rule("a<9|y=0").refuses("broken", NO).tell("age 1 61 5 5").is("broken", 0);
    }
}
