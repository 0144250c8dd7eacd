import java.util.ArrayList;
import java.util.LinkedHashMap;
import java.util.List;
import java.util.Map;
import java.util.function.ToIntFunction;

/** A test of its own for each sentence before the promises that names a boundary case. */
public final class TermsBoundaryTest extends Checks {
    private static final String TEN_ZEROS = times(10, "0");
    private static final String ALL_ENDS = "0 1 2 3 4 5 6 7 8 9 10";

    /** The last two times 11, and times 33, wrap around to 1: an index made of them would look right. */
    private static final int[] ODD_ARGUMENTS = {
        LEAST, LEAST + 1, -65536, -256, -171, -33, -17, -16, -12, -11, -10, -5, -4, -3, -2, -1,
        0, 1, 2, 3, 4, 5, 9, 10, 11, 12, 15, 16, 17, 22, 33, 170, 256, 65536, 1 << 28, 1 << 30,
        GREATEST - 1, GREATEST, -1171354717, 1041204193};

    public static void main(String[] args) {
        test("An object is used for at most 512 calls", TermsBoundaryTest::the512thCall);
        test("LETTERS are 0 to 2", TermsBoundaryTest::letters);
        test("The TEXT has n letters, 0 <= n <= 10", TermsBoundaryTest::lengthsOfText);
        test("at the places 0 to n - 1", TermsBoundaryTest::placesOfLetters);
        test("a PLACE BETWEEN is a number 0 to n", TermsBoundaryTest::placesBetween);
        test("a place between j >= i, its END", TermsBoundaryTest::endsNotBeforeBegin);
        test("letter c: if i < n and the letter at i is c; else none", TermsBoundaryTest::runsOfLetter);
        test("any: if i < n; else none", TermsBoundaryTest::runsOfAny);
        test("empty: one run, to i", TermsBoundaryTest::runsOfEmpty);
        test("cat X Y: for each run of X, for each run of Y from k", TermsBoundaryTest::runsOfCat);
        test("alt X Y: the runs of X, then those of Y", TermsBoundaryTest::runsOfAlt);
        test("star X: each run of X that ends at a k > i", TermsBoundaryTest::roundsOfStar);
        test("star X: then a run to i that does nothing", TermsBoundaryTest::nothingAfterStar);
        test("lazy X: a run to i that does nothing", TermsBoundaryTest::nothingBeforeLazy);
        test("lazy X: then each run of X that ends at a k > i", TermsBoundaryTest::roundsOfLazy);
        test("group g X: sets group g to (i, j)", TermsBoundaryTest::beginsAndEndsOfGroups);
        test("a group that is set several times has what it was set to last", TermsBoundaryTest::setSeveralTimes);
        test("a group that is not set in a run is UNSET", TermsBoundaryTest::unset);
        test("A FIND is the first run from the least i >= f", TermsBoundaryTest::leastBegin);
        test("from which there is a run", TermsBoundaryTest::noBegin);
        test("The pattern in use is empty at first", TermsBoundaryTest::emptyAtFirst);
        test("No call ever throws", TermsBoundaryTest::nothingThrows);
        test("A refused call changes nothing", TermsBoundaryTest::refusedChangesNothing);
        test("The constants", TermsBoundaryTest::constants);
        finish();
    }

    private static void the512thCall() {
        RegexCaptures asked = with("0*a1b&", "20012");
        for (int call = 13; call <= 512; call++) {
            boolean even = call % 2 == 0;
            due("call " + call, even ? asked.groupIn(0, 0) : asked.end(0), even ? 16 + 3 : 4);
        }
        RegexCaptures built = new RegexCaptures();
        for (int call = 1; call <= 510; call += 2) {
            due("call " + call, built.any(), 1);
            built.discard();
        }
        due("call 511", built.any(), 1);
        due("call 512", built.define(), 1);
        RegexCaptures fed = new RegexCaptures();
        for (int call = 1; call <= 506; call += 11) {
            write(fed, TEN_ZEROS);
            fed.erase();
        }
        for (int n = 1; n <= 6; n++) {
            due("call " + (506 + n), fed.feed(1), n);
        }
    }

    private static void letters() {
        for (int c : new int[] {0, 1, 2}) {
            due("letter(" + c + ")", new RegexCaptures().letter(c), 1);
            due("feed(" + c + ")", new RegexCaptures().feed(c), 1);
            due("letter " + c + " in 0 1 2", with("" + c, "012").find(0), c);
        }
        for (int c : NOT_0_TO_2) {
            due("letter(" + c + ")", new RegexCaptures().letter(c), BAD_ARG);
            due("feed(" + c + ")", new RegexCaptures().feed(c), BAD_ARG);
        }
    }

    private static void lengthsOfText() {
        RegexCaptures x = with("e", "");
        due("no letter", x.length(), 0);
        due("a run in no letter", ends(x, 0), "0");
        for (int n = 1; n <= 10; n++) {
            x.feed(0);
            due("letters", x.length(), n);
        }
        due("a run after ten letters", ends(x, 10), "10");
        x.feed(0);
        due("never eleven", x.length(), 10);
        due("no run after eleven", x.find(11), NONE);
    }

    private static void placesOfLetters() {
        due("the only one", with("1", "1").find(0), 0);
        due("the first of ten", with("1", "1000000000").find(0), 0);
        due("the last of ten", with("1", "0000000001").find(0), 9);
        due("the last of ten, its end", with("1", "0000000001").end(0), 10);
        due("the last of two", with("1", "01").find(1), 1);
    }

    private static void placesBetween() {
        for (int n : new int[] {0, 1, 9, 10}) {
            RegexCaptures x = with("e", times(n, "0"));
            due("0 of " + n, x.find(0), 0);
            due("n of " + n, x.find(n), n);
            due("spans at n of " + n, x.spans(n, n), true);
            for (int f : new int[] {-1, n + 1, LEAST, GREATEST}) {
                due(f + " of " + n, x.find(f), NONE);
                due("spans at " + f + " of " + n, x.spans(f, f), false);
            }
        }
    }

    private static void endsNotBeforeBegin() {
        RegexCaptures x = with(".*", TEN_ZEROS);
        for (int i = 0; i <= 10; i++) {
            for (int j = 0; j <= 10; j++) {
                due("from " + i + " to " + j, x.spans(i, j), j >= i);
            }
        }
    }

    private static void runsOfLetter() {
        RegexCaptures x = with("0", "010");
        due("c at 0", ends(x, 0), "1");
        due("not c at 1", ends(x, 1), "");
        due("c at n - 1", ends(x, 2), "3");
        due("at n", ends(x, 3), "");
        due("no text", ends(with("0", ""), 0), "");
        due("at 9 of 10", ends(with("0", TEN_ZEROS), 9), "10");
        due("at 10 of 10", ends(with("0", TEN_ZEROS), 10), "");
        RegexCaptures shorter = erasedThenFed("0", "00", 0);
        due("before n", ends(shorter, 0), "1");
        due("at n, where an erased c was", shorter.find(1), NONE);
        due("c at n - 1 and, at n, an erased c", erasedThenFed("00&", "00", 0).find(0), NONE);
        RegexCaptures other = erasedThenFed("0", "00", 1);
        due("at a place where an erased c was", other.find(0), NONE);
    }

    private static void runsOfAny() {
        RegexCaptures x = with(".", "012");
        due("at 0", ends(x, 0), "1");
        due("at n - 1", ends(x, 2), "3");
        due("at n", ends(x, 3), "");
        due("no text", ends(with(".", ""), 0), "");
        due("at 9 of 10", ends(with(".", TEN_ZEROS), 9), "10");
        due("at 10 of 10", ends(with(".", TEN_ZEROS), 10), "");
        due("at n, where an erased letter was", erasedThenFed(".", "00", 0).find(1), NONE);
    }

    private static RegexCaptures erasedThenFed(String postfix, String text, int c) {
        RegexCaptures x = with(postfix, text);
        x.erase();
        x.feed(c);
        return x;
    }

    private static void runsOfEmpty() {
        due("no text", ends(with("e", ""), 0), "0");
        RegexCaptures x = with("e", TEN_ZEROS);
        for (int i = 0; i <= 10; i++) {
            due("from " + i, ends(x, i), "" + i);
        }
    }

    private static void runsOfCat() {
        due("X has none", ends(with("10&", "00"), 0), "");
        due("Y has none", ends(with("01&", "00"), 0), "");
        due("X ends at n and Y has none there", ends(with("00&", "00"), 1), "");
        due("X ends at n and Y is empty", ends(with("0e&", "00"), 1), "2");
        due("X ends at i", ends(with("e0&", "00"), 1), "2");
        due("both end at i in no text", ends(with("ee&", ""), 0), "0");
        due("both end at n", ends(with("ee&", "00"), 2), "2");
        due("all ten letters", ends(with(".*.*&", TEN_ZEROS), 0), ALL_ENDS);
        due("X's last run is the only one that Y goes on from", with("0*0&", "00").end(0), 2);
        RegexCaptures x = with("000&|a00&0|b&", "000");
        due("X's first run before its second", x.groupInWhole(0), 1);
        due("then Y's first run", x.groupInWhole(1), 16 + 3);
    }

    private static void runsOfAlt() {
        due("X has none", ends(with("10|", "0"), 0), "1");
        due("Y has none", ends(with("01|", "0"), 0), "1");
        due("neither has one", ends(with("12|", "0"), 0), "");
        due("X has none at n", ends(with("0e|", "0"), 1), "1");
        due("neither has one at n", ends(with("01|", "0"), 1), "");
        due("X the shorter", with("000&|", "00").end(0), 1);
        due("X the longer", with("00&0|", "00").end(0), 2);
        due("X too long for the text", with("00&0|", "0").end(0), 1);
        due("X the empty one", with("e0|", "0").end(0), 0);
        RegexCaptures x = with("0a0b|", "0");
        due("to the same end, X", x.groupIn(0, 0), 1);
        due("to the same end, not Y", x.groupIn(0, 1), NONE);
    }

    private static void roundsOfStar() {
        due("k = i alone", ends(with("e*", "00"), 0), "0");
        due("k = i sets no group", with("ea*", "00").groupIn(0, 0), NONE);
        due("k = i before k = i + 1", with("ea0|*", "0").end(0), 1);
        due("k = i before k = i + 1 sets no group", with("ea0|*", "0").groupIn(0, 0), NONE);
        due("k = i after k = i + 1", with("0ea|*", "0").groupIn(0, 0), NONE);
        due("k = i at the last round", with("0*a*", "00").groupIn(0, 0), 2);
        due("k = i at n, of ten letters", with(".*a*", TEN_ZEROS).groupIn(0, 0), 10);
        due("k = i is preferred, k = i + 1 is taken", with("0?a*", "00").groupIn(0, 0), 16 + 2);
        due("k = i + 1", ends(with("0*", "0"), 0), "0 1");
        due("k = 10", ends(with("0*", TEN_ZEROS), 9), "9 10");
        due("ten rounds", ends(with("0*", TEN_ZEROS), 0), ALL_ENDS);
        due("one round of eight, no second one", ends(with("..&..&&..&..&&&*", TEN_ZEROS), 0), "0 8");
        due("two rounds of five", ends(with("..&..&.&&*", TEN_ZEROS), 0), "0 5 10");
        due("no round at n", ends(with(".*", "00"), 2), "2");
    }

    private static void nothingAfterStar() {
        due("X has none", with("1*", "0").end(0), 0);
        due("no text", with(".*", "").end(0), 0);
        due("at n", with(".*", TEN_ZEROS).end(10), 10);
        due("it is the last one", with("0*", "000").end(0), 3);
        due("it is there", with("0*", "000").spans(0, 0), true);
        due("after each round", with("0*", "000").spans(0, 1), true);
        due("it sets no group", with("0a*", "1").groupIn(0, 0), NONE);
    }

    private static void nothingBeforeLazy() {
        due("X has none", with("1?", "0").end(0), 0);
        due("no text", with(".?", "").end(0), 0);
        due("at n", with(".?", TEN_ZEROS).end(10), 10);
        due("it is the first one", with("0?", "000").end(0), 0);
        due("it is the only one", ends(with("1?", "000"), 0), "0");
        due("it sets no group", with("0a?", "0").groupIn(0, 0), NONE);
    }

    private static void roundsOfLazy() {
        due("k = i alone", ends(with("e?", "00"), 0), "0");
        due("k = i sets no group", with("ea?", "").groupInWhole(0), NONE);
        RegexCaptures x = with("ea0b|?1&", "01");
        due("k = i before k = i + 1 sets no group", x.groupIn(0, 0), NONE);
        due("k = i + 1 sets its group", x.groupIn(0, 1), 1);
        due("k = i + 2 before k = i + 1", with("0*a?1&", "001").groupIn(0, 0), 2);
        due("one round, as that is enough", with("0a?0&", "00").groupInWhole(0), 1);
        due("k = i + 1", ends(with("0?", "0"), 0), "0 1");
        due("k = 10", ends(with("0?", TEN_ZEROS), 9), "9 10");
        due("ten rounds", ends(with("0?", TEN_ZEROS), 0), ALL_ENDS);
        due("the tenth round", with("0a?", TEN_ZEROS).groupInWhole(0), 16 * 9 + 10);
        due("two rounds of five", ends(with("..&..&.&&?", TEN_ZEROS), 0), "0 5 10");
        due("no round at n", ends(with(".?", "00"), 2), "2");
        due("X's order", with("00&0|a?", "000").groupInWhole(0), 16 * 2 + 3);
    }

    private static void beginsAndEndsOfGroups() {
        due("(0, 0) of no text", with("ea", "").groupIn(0, 0), 0);
        due("(0, 1)", with(".a", "0").groupIn(0, 0), 1);
        due("(0, 10)", with(".*a", TEN_ZEROS).groupIn(0, 0), 10);
        due("(9, 10)", with(".a", TEN_ZEROS).groupIn(9, 0), 16 * 9 + 10);
        due("(10, 10)", with("ea", TEN_ZEROS).groupIn(10, 0), 16 * 10 + 10);
        due("from X's begin, not the whole one's", with("00a&", "00").groupIn(0, 0), 16 + 2);
        due("to X's end, not the whole one's", with("0a0&", "00").groupIn(0, 0), 1);
        due("X has no run", with("1a", "0").find(0), NONE);
        for (int g = 0; g <= 2; g++) {
            RegexCaptures x = with("0" + "abc".charAt(g), "0");
            for (int other = 0; other <= 2; other++) {
                due("group " + g + " alone, group " + other, x.groupIn(0, other), other == g ? 1 : NONE);
            }
        }
    }

    private static void setSeveralTimes() {
        due("twice by cat", with("0a0a&", "00").groupIn(0, 0), 16 + 2);
        due("twice by cat, the later one shorter", with(".*aea&", "00").groupIn(0, 0), 16 * 2 + 2);
        due("twice by star", with("0a*", "00").groupIn(0, 0), 16 + 2);
        due("ten times by star", with("0a*", TEN_ZEROS).groupIn(0, 0), 16 * 9 + 10);
        due("ten times by lazy", with("0a?", TEN_ZEROS).groupInWhole(0), 16 * 9 + 10);
        due("once, and a later round sets another", with("0a1b|*", "01").groupIn(0, 0), 1);
        due("within the round and after it", with("0a0b&*", "0000").groupIn(0, 0), 16 * 2 + 3);
        due("by star and then by cat", with("0a*1a&", "001").groupIn(0, 0), 16 * 2 + 3);
        due("by star that does nothing after it", with("0a1a*&", "0").groupIn(0, 0), 1);
    }

    private static void unset() {
        due("no group in it", with("0", "0").groupIn(0, 0), NONE);
        due("the other choice", with("0a1b|", "0").groupIn(0, 1), NONE);
        due("star that does nothing", with("0a*", "").groupIn(0, 0), NONE);
        due("a choice that is given up", with("0a1&0|", "00").groupIn(0, 0), NONE);
        due("a round that is given up", with("0a*0&", "0").groupIn(0, 0), NONE);
        RegexCaptures x = with("0a1|", "01");
        due("set in the find before", x.groupIn(0, 0), 1);
        due("not in this one", x.groupIn(1, 0), NONE);
        RegexCaptures other = with("0a", "0");
        build(other, "0");
        other.define();
        due("set by the pattern that was in use before", other.groupIn(0, 0), NONE);
    }

    private static void leastBegin() {
        RegexCaptures x = with("1", "0101");
        due("i = f + 1", x.find(0), 1);
        due("i = f", x.find(1), 1);
        due("not i < f", x.find(2), 3);
        due("i = n - 1", x.find(3), 3);
        due("i = n", with("1*", "00").find(2), 2);
        due("i = 10 = n", with("1*", TEN_ZEROS).find(10), 10);
        due("the least, not the longest", with("011&1&|", "0111").find(0), 0);
        due("the least, though it is empty", with("11*&e|", "01").end(0), 0);
        due("its first run, not its longest", with("001&|", "01").end(0), 1);
        due("its first run, not its shortest", with("01&0|", "01").end(0), 2);
    }

    private static void noBegin() {
        due("in no text", with("0", "").find(0), NONE);
        due("in the whole text", with("1", TEN_ZEROS).find(0), NONE);
        due("only before f", with("1", "100").find(1), NONE);
        due("from n on", with(".", TEN_ZEROS).find(10), NONE);
    }

    private static void emptyAtFirst() {
        for (String text : new String[] {"", "0", "0120120120"}) {
            RegexCaptures x = new RegexCaptures();
            write(x, text);
            for (int i = 0; i <= text.length(); i++) {
                due("the only run from " + i, ends(x, i), "" + i);
            }
            due("as after empty was defined", found(x), found(with("e", text)));
        }
    }

    /** Objects at every limit that the document names. */
    private static List<Before> statesAtLimits() {
        List<Before> all = new ArrayList<>();
        for (String text : new String[] {"", "2001", "2001020012"}) {
            for (String stack : new String[] {"", "0", "0abc", "012012", "0a" + times(14, "*"), "01201a" + times(10, "*")}) {
                all.add(BUSY.text(text).stack(stack));
                all.add(new Before("", text, stack));
                all.add(new Before("01&02&&a", text, stack));
            }
        }
        return all;
    }

    /** Every call that may be refused, those with an argument with many odd ones; spans counts as refused if false. */
    private static Map<String, ToIntFunction<RegexCaptures>> calls() {
        Map<String, ToIntFunction<RegexCaptures>> all = new LinkedHashMap<>();
        for (char step : ".e&|*?".toCharArray()) {
            all.put("step " + step, x -> step(x, step));
        }
        all.put("define", RegexCaptures::define);
        all.put("longest", RegexCaptures::longest);
        for (int a : ODD_ARGUMENTS) {
            all.put("letter(" + a + ")", x -> x.letter(a));
            all.put("group(" + a + ")", x -> x.group(a));
            all.put("feed(" + a + ")", x -> x.feed(a));
            all.put("find(" + a + ")", x -> x.find(a));
            all.put("end(" + a + ")", x -> x.end(a));
            all.put("groupIn(" + a + ", 0)", x -> x.groupIn(a, 0));
            all.put("groupIn(0, " + a + ")", x -> x.groupIn(0, a));
            all.put("groupInWhole(" + a + ")", x -> x.groupInWhole(a));
            all.put("spans(" + a + ", 0)", x -> x.spans(a, 0) ? 1 : NONE);
            all.put("spans(0, " + a + ")", x -> x.spans(0, a) ? 1 : NONE);
        }
        return all;
    }

    private static void nothingThrows() {
        for (Before before : statesAtLimits()) {
            for (int a : ODD_ARGUMENTS) {
                RegexCaptures x = before.make();
                for (int b : ODD_ARGUMENTS) {
                    x.spans(a, b);
                    x.groupIn(a, b);
                }
                x.find(a);
                x.end(a);
                x.groupInWhole(a);
                x.feed(a);
                x.letter(a);
                x.group(a);
                told(x);
            }
        }
        RegexCaptures old = new RegexCaptures();
        for (int call = 0; call < 10000; call++) {
            step(old, "0.e&|*?abc".charAt(call % 10));
            old.feed(call % 3);
            old.find(call % 11);
            if (call % 100 == 99) {
                old.define();
                old.erase();
            }
        }
    }

    private static void refusedChangesNothing() {
        for (Before before : statesAtLimits()) {
            calls().forEach((what, call) -> {
                RegexCaptures asked = before.make();
                int answer = call.applyAsInt(asked);
                if (answer < 0) {
                    due(before + " after the refused " + what, told(asked), told(before.make()));
                }
            });
        }
    }

    private static void constants() {
        due("BAD_ARG", RegexCaptures.BAD_ARG, -1);
        due("FULL", RegexCaptures.FULL, -2);
        due("TOO_FEW", RegexCaptures.TOO_FEW, -3);
        due("NONE", RegexCaptures.NONE, -4);
    }
}
