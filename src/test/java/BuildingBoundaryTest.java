/** A test of its own for each sentence of promises 1 to 13 that names a boundary case. */
public final class BuildingBoundaryTest extends Checks {
    private static final String STEPS_15 = "0" + times(14, "*");
    private static final String STEPS_16 = "0" + times(15, "*");
    private static final String SIX = "012012";
    private static final String SIX_IN_16 = SIX + times(10, "*");

    public static void main(String[] args) {
        test("1 The stack is empty", BuildingBoundaryTest::newStack);
        test("1 the pattern in use is empty", BuildingBoundaryTest::newPattern);
        test("1 the text has no letter", BuildingBoundaryTest::newText);
        test("2 c not 0 to 2 answers BAD_ARG", BuildingBoundaryTest::letterOutOfRange);
        test("2 steps() is 16 answers FULL", () -> pushAtMostSteps('1'));
        test("2 the stack holds 6 answers FULL", () -> pushOnFullStack('1'));
        test("2 Tested in this order", BuildingBoundaryTest::letterOrder);
        test("2 Otherwise the number on the stack", () -> pushAnswers('1'));
        test("3 refused as letter: steps() is 16", () -> pushAtMostSteps('.'));
        test("3 refused as letter: the stack holds 6", () -> pushOnFullStack('.'));
        test("3 the number on the stack", () -> pushAnswers('.'));
        test("4 refused as letter: steps() is 16", () -> pushAtMostSteps('e'));
        test("4 refused as letter: the stack holds 6", () -> pushOnFullStack('e'));
        test("4 the number on the stack", () -> pushAnswers('e'));
        test("5 the two topmost (Y the top)", BuildingBoundaryTest::catOfTopmost);
        test("5 steps() is 16 answers FULL", () -> joinAtMostSteps('&'));
        test("5 fewer than two answers TOO_FEW", () -> joinTooFew('&'));
        test("5 Tested in this order", () -> joinOrder('&'));
        test("5 Otherwise the number on the stack", () -> joinAnswers('&'));
        test("6 the two topmost (Y the top)", BuildingBoundaryTest::altOfTopmost);
        test("6 as cat: steps() is 16", () -> joinAtMostSteps('|'));
        test("6 as cat: fewer than two", () -> joinTooFew('|'));
        test("6 as cat: in this order", () -> joinOrder('|'));
        test("6 as cat: the number on the stack", () -> joinAnswers('|'));
        test("7 in place of the top X", () -> onlyTheTop('*'));
        test("7 steps() is 16 answers FULL", () -> wrapAtMostSteps('*'));
        test("7 empty stack answers TOO_FEW", () -> wrapNothing('*'));
        test("7 Otherwise the number on the stack", () -> wrapAnswers('*'));
        test("8 in place of the top X", () -> onlyTheTop('?'));
        test("8 as star: steps() is 16", () -> wrapAtMostSteps('?'));
        test("8 as star: empty stack", () -> wrapNothing('?'));
        test("8 as star: the number on the stack", () -> wrapAnswers('?'));
        test("9 in place of the top X", BuildingBoundaryTest::groupOfTop);
        test("9 g not 0 to 2 answers BAD_ARG", BuildingBoundaryTest::groupOutOfRange);
        test("9 steps() is 16 answers FULL", () -> wrapAtMostSteps('c'));
        test("9 empty stack answers TOO_FEW", () -> wrapNothing('c'));
        test("9 X has a group g somewhere in it already answers NONE", BuildingBoundaryTest::groupInXAlready);
        test("9 somewhere in it: not beside it", BuildingBoundaryTest::groupNotInX);
        test("9 Tested in this order", BuildingBoundaryTest::groupOrder);
        test("9 Otherwise the number on the stack", () -> wrapAnswers('c'));
        test("10 The number of accepted calls", BuildingBoundaryTest::acceptedSteps);
        test("10 refused ones are not among them", BuildingBoundaryTest::refusedSteps);
        test("10 since the stack was last emptied", BuildingBoundaryTest::stepsSinceEmptied);
        test("11 The number of patterns on the stack", BuildingBoundaryTest::depths);
        test("12 Empties the stack; steps() becomes 0", BuildingBoundaryTest::discards);
        test("13 The top becomes the pattern in use", BuildingBoundaryTest::definesTheTop);
        test("13 the stack is emptied, steps() becomes 0", BuildingBoundaryTest::defineEmpties);
        test("13 TOO_FEW if the stack is empty", BuildingBoundaryTest::defineNothing);
        test("13 Otherwise the number of patterns that were on it", BuildingBoundaryTest::defineAnswers);
        finish();
    }

    private static void newStack() {
        due("depth", new RegexCaptures().depth(), 0);
        due("steps", new RegexCaptures().steps(), 0);
        for (char step : "&|*?abc".toCharArray()) {
            due("step " + step, step(new RegexCaptures(), step), TOO_FEW);
        }
        due("define", new RegexCaptures().define(), TOO_FEW);
        due("the first pattern", new RegexCaptures().letter(0), 1);
        due("no step is gone", building(STEPS_16).steps(), 16);
    }

    private static void newPattern() {
        RegexCaptures x = new RegexCaptures();
        due("from 0", ends(x, 0), "0");
        due("find", x.find(0), 0);
        due("end", x.end(0), 0);
        for (int g = 0; g <= 2; g++) {
            due("group " + g, x.groupIn(0, g), NONE);
            due("group " + g + " in the whole", x.groupInWhole(g), NONE);
        }
        x.feed(0);
        due("from 0 with a letter", ends(x, 0), "0");
        due("from 1 with a letter", ends(x, 1), "1");
    }

    private static void newText() {
        RegexCaptures x = new RegexCaptures();
        due("length", x.length(), 0);
        due("place between 1", x.find(1), NONE);
        due("finds", x.count(), 1);
        due("the first letter", x.feed(2), 1);
        due("ten letters go in", lengthAfter(10), 10);
    }

    private static int lengthAfter(int feeds) {
        RegexCaptures x = new RegexCaptures();
        write(x, times(feeds, "0"));
        return x.length();
    }

    private static void letterOutOfRange() {
        for (int c = 0; c <= 2; c++) {
            due("letter(" + c + ")", building("01").letter(c), 3);
        }
        for (int c : NOT_0_TO_2) {
            refused(BUSY, "letter(" + c + ")", x -> x.letter(c), BAD_ARG);
            refused(BUSY.stack("0a1"), "letter(" + c + ")", x -> x.letter(c), BAD_ARG);
        }
    }

    private static void letterOrder() {
        for (int c : NOT_0_TO_2) {
            refused(BUSY.stack(STEPS_16), "letter(" + c + ")", x -> x.letter(c), BAD_ARG);
            refused(BUSY.stack(SIX), "letter(" + c + ")", x -> x.letter(c), BAD_ARG);
            refused(BUSY.stack(SIX_IN_16), "letter(" + c + ")", x -> x.letter(c), BAD_ARG);
        }
    }

    private static void pushAtMostSteps(char push) {
        due("at 15 steps", step(building(STEPS_15), push), 2);
        due("at 15 steps and five", step(building("01201" + times(10, "*")), push), 6);
        refused(STEPS_16, push, FULL);
        refused("01" + times(14, "?"), push, FULL);
        refused("01201" + times(11, "*"), push, FULL);
        RegexCaptures x = building(STEPS_16);
        x.discard();
        due("16 steps that were discarded", step(x, push), 1);
        build(x, STEPS_15);
        x.define();
        due("16 steps of which one was defined", step(x, push), 1);
    }

    private static void pushOnFullStack(char push) {
        due("with five", step(building("01201"), push), 6);
        refused(SIX, push, FULL);
        refused(SIX + times(9, "*"), push, FULL);
        refused(SIX_IN_16, push, FULL);
        RegexCaptures x = building(SIX + "&");
        due("with five again", step(x, push), 6);
        due("with six again", step(x, push), FULL);
    }

    private static void pushAnswers(char push) {
        RegexCaptures x = new RegexCaptures();
        for (int held = 1; held <= 6; held++) {
            due("push number " + held, step(x, push), held);
            due("depth", x.depth(), held);
            due("steps", x.steps(), held);
        }
    }

    private static void catOfTopmost() {
        due("X is the lower one", with("01&", "10").find(0), NONE);
        due("Y is the top", with("01&", "01").end(0), 2);
        RegexCaptures x = with("201&|", "01");
        due("the third from the top stays", x.find(0), 0);
        due("below is as it was", with("201&|", "2").find(0), 0);
        due("five below six", build(building(SIX + "&"), "||||"), 1);
    }

    private static void altOfTopmost() {
        due("X is the lower one", with("000&|", "00").end(0), 1);
        due("Y is the top", with("00&0|", "00").end(0), 2);
        due("the third from the top stays", with("201|&", "21").end(0), 2);
        due("it is not among them", with("201|&", "2").find(0), NONE);
    }

    private static void joinAtMostSteps(char join) {
        due("at 15 steps with two", step(building("01" + times(13, "*")), join), 1);
        due("at 15 steps with six", step(building(SIX + times(9, "*")), join), 5);
        refused("01" + times(14, "*"), join, FULL);
        refused("012" + times(13, "*"), join, FULL);
        refused(SIX_IN_16, join, FULL);
    }

    private static void joinTooFew(char join) {
        refused("", join, TOO_FEW);
        refused("0", join, TOO_FEW);
        refused("0a", join, TOO_FEW);
        refused("01|", join, TOO_FEW);
        refused(STEPS_15, join, TOO_FEW);
        due("two are enough", step(building("01"), join), 1);
        RegexCaptures x = building("01");
        x.discard();
        due("two that were discarded", step(x, join), TOO_FEW);
        build(x, "01");
        x.define();
        due("two of which one was defined", step(x, join), TOO_FEW);
    }

    private static void joinOrder(char join) {
        refused(STEPS_16, join, FULL);
        refused("01" + times(13, "*") + "|", join, FULL);
    }

    private static void joinAnswers(char join) {
        RegexCaptures x = building(SIX);
        for (int held = 5; held >= 1; held--) {
            due("join to " + held, step(x, join), held);
            due("depth", x.depth(), held);
            due("steps", x.steps(), 12 - held);
        }
        due("none is left to join", step(x, join), TOO_FEW);
    }

    private static void onlyTheTop(char repeat) {
        RegexCaptures x = with("01" + repeat + "&", "011");
        due("the top", ends(x, 0), "1 2 3");
        due("the one below stays", ends(x, 1), "");
        due("the whole top", ends(with("01&" + repeat, "0101"), 0), "0 2 4");
    }

    private static void wrapAtMostSteps(char wrap) {
        due("at 15 steps", step(building(STEPS_15), wrap), 1);
        due("at 15 steps with six", step(building(SIX + times(9, "*")), wrap), 6);
        refused(STEPS_16, wrap, FULL);
        refused("01" + times(14, "?"), wrap, FULL);
        refused(SIX_IN_16, wrap, FULL);
    }

    // That steps() is 16 and the stack is empty can't be: whatever empties it makes steps() 0.
    private static void wrapNothing(char wrap) {
        refused("", wrap, TOO_FEW);
        due("one is enough", step(building("0"), wrap), 1);
        RegexCaptures x = building(STEPS_16);
        x.discard();
        due("after 16 steps and discard", step(x, wrap), TOO_FEW);
        build(x, STEPS_16);
        x.define();
        due("after 16 steps and define", step(x, wrap), TOO_FEW);
    }

    private static void wrapAnswers(char wrap) {
        RegexCaptures x = new RegexCaptures();
        for (int held = 1; held <= 6; held++) {
            x.letter(0);
            due("wrap one of " + held, step(x, wrap), held);
            due("depth", x.depth(), held);
            due("steps", x.steps(), 2 * held);
        }
    }

    private static void groupOfTop() {
        RegexCaptures x = with("01a&", "01");
        due("the top", x.groupIn(0, 0), 16 + 2);
        due("not the one below", with("0a1&", "01").groupIn(0, 0), 1);
        due("the whole top", with("01&a", "01").groupIn(0, 0), 2);
    }

    private static void groupOutOfRange() {
        for (int g = 0; g <= 2; g++) {
            due("group(" + g + ")", building("01").group(g), 2);
        }
        for (int g : NOT_0_TO_2) {
            refused(BUSY.stack("01"), "group(" + g + ")", x -> x.group(g), BAD_ARG);
            refused(BUSY.stack("0b1"), "group(" + g + ")", x -> x.group(g), BAD_ARG);
        }
    }

    private static void groupInXAlready() {
        for (char g : "abc".toCharArray()) {
            refused("0" + g, g, NONE);
            refused("0" + g + "*", g, NONE);
            refused("0" + g + "?", g, NONE);
            refused("0" + g + "1&", g, NONE);
            refused("10" + g + "&", g, NONE);
            refused("0" + g + "1|", g, NONE);
            refused("10" + g + "|", g, NONE);
            refused("0" + g + "0" + g + "&", g, NONE);
            refused("0" + g + times(13, "*"), g, NONE);
            refused("210" + g + "*1&?2|*&", g, NONE);
            for (char other : "abc".toCharArray()) {
                if (other != g) {
                    refused("0" + g + other, g, NONE);
                    refused("0" + other + g, g, NONE);
                    due(other + " after " + g, build(building("0" + g), "" + other), 1);
                }
            }
        }
        refused("0abc", 'a', NONE);
        refused("0abc", 'b', NONE);
        refused("0abc", 'c', NONE);
    }

    private static void groupNotInX() {
        for (char g : "abc".toCharArray()) {
            due("in the pattern below", build(building("0" + g + "1"), "" + g), 2);
            due("in all six", build(new RegexCaptures(), times(6, "0" + g)), 6);
            due("in both of a cat", build(building("0" + g + "1" + g), "&"), 1);
            due("in both of an alt", build(building("0" + g + "1" + g), "|"), 1);
            RegexCaptures x = building("0" + g);
            x.discard();
            due("in a pattern that was discarded", build(x, "0" + g), 1);
            x.define();
            due("in the pattern in use", build(x, "0" + g), 1);
            due("refused before, as the stack was empty", build(building("" + g), "0" + g), 1);
        }
    }

    private static void groupOrder() {
        for (int g : NOT_0_TO_2) {
            refused(BUSY.stack(STEPS_16), "group(" + g + ")", x -> x.group(g), BAD_ARG);
            refused(BUSY, "group(" + g + ")", x -> x.group(g), BAD_ARG);
            refused(BUSY.stack("0abc"), "group(" + g + ")", x -> x.group(g), BAD_ARG);
        }
        for (char g : "abc".toCharArray()) {
            refused("0" + g + times(14, "*"), g, FULL);
            due(g + " at 15 steps", build(building("0" + g + times(13, "*")), "" + g), NONE);
        }
    }

    private static void acceptedSteps() {
        String steps = "0.e&|*?abc012&|&";
        RegexCaptures x = new RegexCaptures();
        due("at first", x.steps(), 0);
        for (int k = 1; k <= 16; k++) {
            step(x, steps.charAt(k - 1));
            due("after " + steps.substring(0, k), x.steps(), k);
        }
        x.feed(0);
        told(x);
        x.erase();
        due("other calls are not counted", x.steps(), 16);
    }

    private static void refusedSteps() {
        RegexCaptures x = new RegexCaptures();
        build(x, "&|*?a3");
        due("with an empty stack", x.steps(), 0);
        build(x, "0&|");
        due("with one", x.steps(), 1);
        build(x, "aa");
        due("a group twice", x.steps(), 2);
        x.group(3);
        x.group(-1);
        due("a wrong group", x.steps(), 2);
        build(x, "00000" + "0.e");
        due("a seventh", x.steps(), 7);
        build(x, times(9, "*") + "0.e&|*?b");
        due("a seventeenth", x.steps(), 16);
        x.letter(3);
        due("a wrong letter", x.steps(), 16);
    }

    private static void stepsSinceEmptied() {
        RegexCaptures x = building(STEPS_16);
        x.discard();
        due("after discard", x.steps(), 0);
        x.define();
        due("after define of nothing", x.steps(), 0);
        build(x, "01&");
        due("and three", x.steps(), 3);
        x.define();
        due("after define", x.steps(), 0);
        build(x, STEPS_16);
        due("and sixteen", x.steps(), 16);
    }

    private static void depths() {
        RegexCaptures x = new RegexCaptures();
        due("the least", x.depth(), 0);
        build(x, SIX);
        due("the greatest", x.depth(), 6);
        x.any();
        due("after a refused push", x.depth(), 6);
        build(x, "&|&|&");
        due("after five joins", x.depth(), 1);
        x.cat();
        due("after a refused join", x.depth(), 1);
        build(x, "*?a");
        due("after star, lazy and group", x.depth(), 1);
        x.define();
        due("after define", x.depth(), 0);
        x.star();
        due("after a refused star", x.depth(), 0);
    }

    private static void discards() {
        for (String stack : new String[] {"", "0", SIX, STEPS_16, SIX_IN_16}) {
            RegexCaptures x = BUSY.stack(stack).make();
            x.discard();
            due("after " + stack, told(x), told(BUSY.make()));
            due("define after it", x.define(), TOO_FEW);
            due("16 steps after it", build(x, STEPS_16), 1);
            due("steps", x.steps(), 16);
            x.discard();
            due("six after it", build(x, SIX), 6);
        }
    }

    private static void definesTheTop() {
        due("of one", definedTop("2"), 2);
        due("of two", definedTop("02"), 2);
        due("of six", definedTop("000002"), 2);
        due("of six, the top in four steps", definedTop("000002abc"), 2);
        due("of five in 16 steps", definedTop("00002" + times(5, "e&") + "a"), 2);
        due("16 steps", with(STEPS_16, "00").end(0), 2);
        RegexCaptures x = BUSY.stack("0").make();
        due("not before define", told(x).replace("steps=1 depth=1", "steps=0 depth=0"), told(BUSY.make()));
        x.define();
        due("instead of the one before", found(x), found(with("0", "2001")));
        build(x, "1");
        x.discard();
        due("and until the next define", found(x), found(with("0", "2001")));
    }

    /** Where the top, once defined, is found in 0 1 2. */
    private static int definedTop(String stack) {
        return with(stack, "012").find(0);
    }

    private static void defineEmpties() {
        for (String stack : new String[] {"0", SIX, STEPS_16, SIX_IN_16}) {
            RegexCaptures x = building(stack);
            x.define();
            due("depth after " + stack, x.depth(), 0);
            due("steps after " + stack, x.steps(), 0);
            due("define again", x.define(), TOO_FEW);
            due("six after it", build(x, SIX), 6);
            due("ten steps more", build(x, times(10, "*")), 6);
        }
    }

    private static void defineNothing() {
        refused(BUSY, "define", RegexCaptures::define, TOO_FEW);
        refused(BUSY.text(""), "define", RegexCaptures::define, TOO_FEW);
        refused(BUSY.text("2001020012"), "define", RegexCaptures::define, TOO_FEW);
        refused(new Before("", "01", ""), "define", RegexCaptures::define, TOO_FEW);
    }

    private static void defineAnswers() {
        for (int held = 1; held <= 6; held++) {
            due("of " + held, building(times(held, "0")).define(), held);
        }
        due("of six in 16 steps", building(SIX_IN_16).define(), 6);
        due("of six joined to one", building(SIX + "|||||").define(), 1);
    }
}
