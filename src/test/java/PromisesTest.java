/** One method for each promise of the document: what it does. Its limits stand in the boundary tests. */
public final class PromisesTest extends Checks {
    public static void main(String[] args) {
        test("1 A new object", PromisesTest::newObject);
        test("2 letter", PromisesTest::letter);
        test("3 any", PromisesTest::any);
        test("4 empty", PromisesTest::empty);
        test("5 cat", PromisesTest::cat);
        test("6 alt", PromisesTest::alt);
        test("7 star", PromisesTest::star);
        test("8 lazy", PromisesTest::lazy);
        test("9 group", PromisesTest::group);
        test("10 steps", PromisesTest::steps);
        test("11 depth", PromisesTest::depth);
        test("12 discard", PromisesTest::discard);
        test("13 define", PromisesTest::define);
        test("14 feed", PromisesTest::feed);
        test("15 erase", PromisesTest::erase);
        test("16 length", PromisesTest::length);
        test("17 find", PromisesTest::find);
        test("18 end", PromisesTest::end);
        test("19 groupIn", PromisesTest::groupIn);
        test("20 spans", PromisesTest::spans);
        test("21 groupInWhole", PromisesTest::groupInWhole);
        test("22 count", PromisesTest::count);
        test("23 longest", PromisesTest::longest);
        finish();
    }

    private static void newObject() {
        RegexCaptures x = new RegexCaptures();
        due("steps", x.steps(), 0);
        due("depth", x.depth(), 0);
        due("length", x.length(), 0);
        due("find(0)", x.find(0), 0);
        due("end(0)", x.end(0), 0);
        due("spans(0, 0)", x.spans(0, 0), true);
        due("define", x.define(), TOO_FEW);
        for (int g = 0; g < 3; g++) {
            due("groupIn", x.groupIn(0, g), NONE);
            due("groupInWhole", x.groupInWhole(g), NONE);
        }
        due("count", x.count(), 1);
        due("longest", x.longest(), 0);
        write(x, "012");
        due("found", found(x), found(with("e", "012")));
        due("count with a text", x.count(), 4);
        RegexCaptures other = new RegexCaptures();
        due("length of another", other.length(), 0);
        other.letter(0);
        due("depth of the first", x.depth(), 0);
    }

    private static void letter() {
        RegexCaptures x = new RegexCaptures();
        for (int k = 1; k <= 6; k++) {
            due("letter", x.letter(k % 3), k);
        }
        due("seventh", x.letter(0), FULL);
        due("wrong and full", x.letter(3), BAD_ARG);
        due("depth", x.depth(), 6);
        for (int c : NOT_0_TO_2) {
            RegexCaptures y = new RegexCaptures();
            due("letter(" + c + ")", y.letter(c), BAD_ARG);
            due("told after", told(y), told(new RegexCaptures()));
            y = building("0***************");
            due("letter(" + c + ") at 16 steps", y.letter(c), BAD_ARG);
        }
        for (int c = 0; c < 3; c++) {
            RegexCaptures y = with("" + c, "012");
            for (int i = 0; i <= 3; i++) {
                due("letter " + c + " from " + i, ends(y, i), i == c ? "" + (i + 1) : "");
            }
        }
        due("at the end of the text", with("0", "").find(0), NONE);
    }

    private static void any() {
        RegexCaptures x = new RegexCaptures();
        for (int k = 1; k <= 6; k++) {
            due("any", x.any(), k);
        }
        due("seventh", x.any(), FULL);
        RegexCaptures y = with(".", "012");
        due("from 0", ends(y, 0), "1");
        due("from 1", ends(y, 1), "2");
        due("from 2", ends(y, 2), "3");
        due("from the end", ends(y, 3), "");
        due("in no text", with(".", "").find(0), NONE);
    }

    private static void empty() {
        RegexCaptures x = new RegexCaptures();
        for (int k = 1; k <= 6; k++) {
            due("empty", x.empty(), k);
        }
        due("seventh", x.empty(), FULL);
        RegexCaptures y = with("e", "01");
        due("from 0", ends(y, 0), "0");
        due("from 1", ends(y, 1), "1");
        due("from the end", ends(y, 2), "2");
    }

    private static void cat() {
        due("of two", building("01").cat(), 1);
        due("of three", building("012").cat(), 2);
        due("of six", building("000000").cat(), 5);
        RegexCaptures x = with("01&", "0110");
        due("X before Y", ends(x, 0), "2");
        due("not Y before X", ends(x, 2), "");
        due("takes the two topmost", ends(with("201&|", "2012"), 1), "3");
        due("below stays", ends(with("201&|", "2012"), 3), "4");
        RegexCaptures order = with("0*a.*b&", "0012");
        due("X has its way first", order.groupIn(0, 0), 2);
        due("Y has the rest", order.groupIn(0, 1), 16 * 2 + 4);
        RegexCaptures inner = with("e0|a0e|b&", "00");
        due("X's first run and Y's first", inner.end(0), 1);
        due("X", inner.groupIn(0, 0), 0);
        due("Y", inner.groupIn(0, 1), 1);
        RegexCaptures back = with("0*a0b&", "000");
        due("X gives back one", back.groupIn(0, 0), 2);
        due("Y gets it", back.groupIn(0, 1), 16 * 2 + 3);
        RegexCaptures twice = with("0a1a&", "01");
        due("a group set in both has the later", twice.groupIn(0, 0), 16 + 2);
        due("a group set in X alone stays", with("0a1&", "01").groupIn(0, 0), 1);
    }

    private static void alt() {
        due("of two", building("01").alt(), 1);
        due("of three", building("012").alt(), 2);
        RegexCaptures x = with("01|", "012");
        due("from 0", ends(x, 0), "1");
        due("from 1", ends(x, 1), "2");
        due("from 2", ends(x, 2), "");
        due("X first", with("001&|", "01").end(0), 1);
        due("X first though shorter comes later", with("01&0|", "01").end(0), 2);
        due("Y if X has none", with("10|", "0").end(0), 1);
        RegexCaptures same = with("0a0b|", "0");
        due("of two to one end the first", same.groupIn(0, 0), 1);
        due("and not the second", same.groupIn(0, 1), NONE);
        RegexCaptures other = with("1a0b|", "0");
        due("X has none", other.groupIn(0, 0), NONE);
        due("Y has", other.groupIn(0, 1), 1);
        due("Y before X's later choice", with("00&0|00&0&|2&", "0002").find(0), 0);
    }

    private static void star() {
        due("of one", building("0").star(), 1);
        due("of three", building("012").star(), 3);
        RegexCaptures x = with("0*", "0001");
        due("from 0", ends(x, 0), "0 1 2 3");
        due("most first", x.end(0), 3);
        due("none", x.end(3), 3);
        due("only the top", ends(with("10*&", "1001"), 0), "1 2 3");
        due("X's order", with("001&|*", "01001").end(0), 1);
        due("a round that does nothing is not taken", with("e0|*", "00").end(0), 2);
        due("nor does it set its group", with("0*a*", "1").groupIn(0, 0), NONE);
        due("last round's group", with("0a*", "000").groupIn(0, 0), 16 * 2 + 3);
        due("an earlier round's group stays", with("0a1b|*", "01").groupIn(0, 0), 1);
        due("star of star", with("0**a*", "00").groupIn(0, 0), 2);
        due("star of empty", ends(with("e*", "00"), 0), "0");
        RegexCaptures full = with("00&*", "0000000000");
        due("the whole text by twos", ends(full, 0), "0 2 4 6 8 10");
        due("its end", full.end(0), 10);
        due("fifteen stars", with("0***************", "0000000000").end(0), 10);
        RegexCaptures longer = with("00&0|a*", "000");
        due("twos first", longer.groupIn(0, 0), 16 * 2 + 3);
    }

    private static void lazy() {
        due("of one", building("0").lazy(), 1);
        due("of three", building("012").lazy(), 3);
        RegexCaptures x = with("0?", "0001");
        due("from 0", ends(x, 0), "0 1 2 3");
        due("nothing first", x.end(0), 0);
        due("as few as needed", with(".?a1&", "00101").groupIn(0, 0), 2);
        due("more if needed", with(".?1&2&", "010120").end(0), 5);
        due("a round that does nothing is not taken", ends(with("e0|?", "00"), 0), "0 1 2");
        due("nor does it set its group", with("ea0|?1&", "01").groupIn(0, 0), NONE);
        due("last round's group", with("0a?1&", "0001").groupIn(0, 0), 16 * 2 + 3);
        due("an earlier round's group stays", with("0a1b|?2&", "012").groupIn(0, 0), 1);
        due("X's order", with("00&0|a?1&", "0001").groupIn(0, 0), 16 * 2 + 3);
        due("the whole text", with("0?", "0000000000").spans(0, 10), true);
    }

    private static void group() {
        for (int g = 0; g < 3; g++) {
            due("group " + g, building("01").group(g), 2);
        }
        for (int g : NOT_0_TO_2) {
            due("group(" + g + ")", building("0").group(g), BAD_ARG);
            due("with no pattern", building("").group(g), BAD_ARG);
            due("at 16 steps", building("0***************").group(g), BAD_ARG);
        }
        due("in another pattern of the stack", build(building("0a1"), "a"), 2);
        due("another group inside", build(building("0a"), "bc"), 1);
        due("of a pattern discarded", build(discarded("0a"), "0a"), 1);
        due("the same group twice side by side", building("0a1a&").steps(), 5);
        RegexCaptures x = with("10a&2b&c", "0102");
        due("begin and end", x.groupIn(0, 0), 16 * 2 + 3);
        due("of another", x.groupIn(0, 1), 16 * 3 + 4);
        due("around both", x.groupIn(0, 2), 16 + 4);
        due("nested alike", with("0abc", "0").groupIn(0, 1), 1);
        due("does not change the order", with("0*a", "00").end(0), 2);
        due("an empty one is set", with("ea", "").groupIn(0, 0), 0);
    }

    private static RegexCaptures discarded(String postfix) {
        RegexCaptures x = building(postfix);
        x.discard();
        return x;
    }

    private static void steps() {
        RegexCaptures x = new RegexCaptures();
        String pattern = "0.e&|*?abc1&";
        for (int k = 0; k < pattern.length(); k++) {
            step(x, pattern.charAt(k));
            due("after " + (k + 1), x.steps(), k + 1);
        }
        x.group(0);
        x.letter(3);
        x.cat();
        x.group(-1);
        due("refused ones do not count", x.steps(), pattern.length());
        build(x, "******");
        due("no more than 16", x.steps(), 16);
        x.define();
        due("after define", x.steps(), 0);
        x.letter(0);
        due("again", x.steps(), 1);
        x.discard();
        due("after discard", x.steps(), 0);
        x.feed(0);
        x.cat();
        x.star();
        x.find(0);
        due("feed, find and refused ones", x.steps(), 0);
    }

    private static void depth() {
        RegexCaptures x = new RegexCaptures();
        int[] want = {1, 2, 3, 2, 1, 1, 1, 1, 2};
        String pattern = "0.e&|*?a1";
        for (int k = 0; k < want.length; k++) {
            step(x, pattern.charAt(k));
            due("after " + (k + 1), x.depth(), want[k]);
        }
        x.define();
        due("after define", x.depth(), 0);
        build(x, "0000000");
        due("no more than 6", x.depth(), 6);
        x.feed(0);
        x.erase();
        due("after feed and erase", x.depth(), 6);
        x.discard();
        due("after discard", x.depth(), 0);
    }

    private static void discard() {
        RegexCaptures x = with("0*a1&", "001");
        String found = found(x);
        build(x, "012");
        x.discard();
        due("depth", x.depth(), 0);
        due("steps", x.steps(), 0);
        due("the pattern in use and the text stay", found(x), found);
        due("define", x.define(), TOO_FEW);
        due("cat", x.cat(), TOO_FEW);
        x.discard();
        due("an empty stack", told(x), "steps=0 depth=0 " + found);
        build(x, "0***************");
        x.discard();
        due("after 16 steps", x.letter(1), 1);
        x.define();
        due("a new pattern", x.find(0), 2);
    }

    private static void define() {
        RegexCaptures x = new RegexCaptures();
        write(x, "0121");
        due("empty stack", x.define(), TOO_FEW);
        due("stays empty", found(x), found(with("e", "0121")));
        build(x, "012");
        due("three on the stack", x.define(), 3);
        due("the top", x.find(0), 2);
        due("depth", x.depth(), 0);
        due("steps", x.steps(), 0);
        String found = found(x);
        due("nothing left", x.define(), TOO_FEW);
        due("refused", found(x), found);
        build(x, "0***************");
        due("not before define", found(x), found);
        due("one on the stack", x.define(), 1);
        due("16 steps", x.end(0), 1);
        build(x, "000001");
        due("six on the stack", x.define(), 6);
        due("the top of six", x.find(0), 1);
        build(x, "2.");
        due("a shorter one", x.define(), 2);
        due("in use", found(x), found(with(".", "0121")));
        RegexCaptures below = new RegexCaptures();
        build(below, "0a1*12&|");
        write(below, "1200");
        due("with a pattern below", below.define(), 2);
        due("only the top is in use", found(below), found(with("1*12&|", "1200")));
        x.discard();
        x.letter(2);
        x.star();
        due("building does not change it", found(x), found(with(".", "0121")));
    }

    private static void feed() {
        RegexCaptures x = with("2", "");
        for (int k = 1; k <= 10; k++) {
            due("feed", x.feed(k == 10 ? 2 : k % 2), k);
        }
        due("the last letter", x.find(0), 9);
        due("full", x.feed(0), FULL);
        for (int c : NOT_0_TO_2) {
            due("wrong and full", x.feed(c), BAD_ARG);
            RegexCaptures y = with("0", "01");
            String told = told(y);
            due("feed(" + c + ")", y.feed(c), BAD_ARG);
            due("refused", told(y), told);
        }
        due("length", x.length(), 10);
        due("still the last letter", x.end(0), 10);
        x.feed(2);
        due("a refused letter is nowhere", x.count(), 1);
        RegexCaptures y = with("0.2&&", "0");
        due("too short", y.find(0), NONE);
        y.feed(1);
        y.feed(2);
        due("long enough", y.find(0), 0);
        build(y, "01");
        y.feed(0);
        due("the stack stays", y.depth(), 2);
        due("the steps stay", y.steps(), 2);
    }

    private static void erase() {
        RegexCaptures x = with("0*a", "0000000000");
        build(x, "01");
        x.erase();
        due("length", x.length(), 0);
        due("find(0)", x.find(0), 0);
        due("find(1)", x.find(1), NONE);
        due("end", x.end(0), 0);
        due("spans", x.spans(0, 1), false);
        due("group", x.groupIn(0, 0), 0);
        due("whole", x.groupInWhole(0), 0);
        due("count", x.count(), 1);
        due("longest", x.longest(), 0);
        due("depth", x.depth(), 2);
        due("steps", x.steps(), 2);
        x.erase();
        due("again", x.length(), 0);
        due("feed", x.feed(1), 1);
        due("old letters are gone", found(x), found(with("0*a", "1")));
        due("nothing found", eraseOf("0", "000").find(0), NONE);
        due("none", eraseOf("0", "000").longest(), NONE);
    }

    private static RegexCaptures eraseOf(String postfix, String text) {
        RegexCaptures x = with(postfix, text);
        x.erase();
        return x;
    }

    private static void length() {
        RegexCaptures x = new RegexCaptures();
        due("at first", x.length(), 0);
        for (int k = 1; k <= 10; k++) {
            x.feed(0);
            due("after feed", x.length(), k);
        }
        x.feed(0);
        due("after a refused feed", x.length(), 10);
        x.letter(0);
        x.define();
        due("after define", x.length(), 10);
        x.discard();
        due("after discard", x.length(), 10);
        x.erase();
        due("after erase", x.length(), 0);
        x.feed(5);
        due("after a wrong feed", x.length(), 0);
    }

    private static void find() {
        RegexCaptures x = with("12&", "0120120");
        int[] want = {1, 1, 4, 4, 4, NONE, NONE, NONE, NONE};
        for (int f = 0; f < want.length; f++) {
            due("find(" + f + ")", x.find(f), want[f]);
        }
        for (int f : new int[] {-1, 8, 10, 11, 16, -100, Integer.MIN_VALUE, Integer.MAX_VALUE}) {
            due("find(" + f + ")", x.find(f), NONE);
        }
        due("at n", with("0*", "11").find(2), 2);
        due("after n", with("0*", "11").find(3), NONE);
        due("no run", with("1", "0000").find(0), NONE);
        due("the least begin, not the longest run", with("0*1&", "10001").find(0), 0);
        due("the last letter of ten", with("1", "0000000001").find(0), 9);
        due("at n = 10", with("e", "0000000001").find(10), 10);
    }

    private static void end() {
        RegexCaptures x = with("12*&", "0122012");
        int[] want = {4, 4, 7, 7, 7, 7, NONE, NONE, NONE};
        for (int f = 0; f < want.length; f++) {
            due("end(" + f + ")", x.end(f), want[f]);
        }
        for (int f : new int[] {-1, 8, 10, 11, 16, -100, Integer.MIN_VALUE, Integer.MAX_VALUE}) {
            due("end(" + f + ")", x.end(f), NONE);
        }
        due("of the first run, not the longest", with("1.1&|", "0110").end(0), 2);
        due("at n", with("0*", "11").end(2), 2);
        due("no run", with("1", "0000").end(0), NONE);
        due("ten letters", with(".*", "0120120120").end(0), 10);
    }

    private static void groupIn() {
        RegexCaptures x = with("1a2b&0c|", "1212");
        due("group 0 from 0", x.groupIn(0, 0), 1);
        due("group 1 from 0", x.groupIn(0, 1), 16 + 2);
        due("group 2 unset", x.groupIn(0, 2), NONE);
        due("group 0 from 1", x.groupIn(1, 0), 16 * 2 + 3);
        due("group 1 from 2", x.groupIn(2, 1), 16 * 3 + 4);
        for (int f : new int[] {3, 4, 5, -1, 11, Integer.MIN_VALUE, Integer.MAX_VALUE}) {
            due("no find from " + f, x.groupIn(f, 0), NONE);
        }
        for (int g : NOT_0_TO_2) {
            due("groupIn(0, " + g + ")", x.groupIn(0, g), NONE);
            due("both wrong", x.groupIn(-1, g), NONE);
        }
        RegexCaptures y = with(".*a.b&c", "0120120120");
        due("to 9", y.groupIn(0, 0), 9);
        due("9 to 10", y.groupIn(0, 1), 16 * 9 + 10);
        due("0 to 10", y.groupIn(0, 2), 10);
        due("at 10", with("ea", "0120120120").groupIn(10, 0), 16 * 10 + 10);
        due("in the first run", with("0?a0*b&", "00").groupIn(0, 1), 2);
        RegexCaptures left = with("0a1&0|", "00");
        due("a choice given up sets nothing", left.groupIn(0, 0), NONE);
    }

    private static void spans() {
        RegexCaptures x = with("00&1|*", "00100");
        due("from 0", ends(x, 0), "0 2 3 5");
        due("from 1", ends(x, 1), "1");
        due("from 2", ends(x, 2), "2 3 5");
        due("from 5", ends(x, 5), "5");
        due("to before its begin", x.spans(3, 2), false);
        for (int i : new int[] {-1, 6, 10, 11, 16, Integer.MIN_VALUE, Integer.MAX_VALUE}) {
            due("spans(" + i + ", 0)", x.spans(i, 0), false);
            due("spans(0, " + i + ")", x.spans(0, i), false);
            due("spans(" + i + ", " + i + ")", x.spans(i, i), false);
        }
        RegexCaptures shorter = eraseOf(".*", "0000");
        shorter.feed(1);
        due("within", shorter.spans(0, 1), true);
        due("beyond the text of now", shorter.spans(0, 2), false);
        due("from beyond", shorter.spans(2, 2), false);
        due("a run that is not preferred", with("0?", "0").spans(0, 1), true);
    }

    private static void groupInWhole() {
        RegexCaptures x = with("0?a.?b&", "001");
        due("the find ends at once", x.end(0), 0);
        due("group 0 of the whole", x.groupInWhole(0), 0);
        due("group 1 of the whole", x.groupInWhole(1), 3);
        due("unset", x.groupInWhole(2), NONE);
        for (int g : NOT_0_TO_2) {
            due("groupInWhole(" + g + ")", x.groupInWhole(g), NONE);
        }
        due("no run to n", with("0a", "01").groupInWhole(0), NONE);
        due("no run from 0", with("1a", "01").groupInWhole(0), NONE);
        due("the first of several to n", with("0*a0*b&", "000").groupInWhole(0), 3);
        due("of several to n with lazy", with("0?a0?b&", "000").groupInWhole(0), 0);
        RegexCaptures y = with("0a00&b|*", "000");
        due("ones are preferred", y.groupInWhole(0), 16 * 2 + 3);
        due("twos are not needed", y.groupInWhole(1), NONE);
        due("no text", with("ea", "").groupInWhole(0), 0);
        due("ten letters", with(".*.a&", "0120120120").groupInWhole(0), 16 * 9 + 10);
        due("not from 0 but found", with("1a", "01").groupIn(0, 0), 16 + 2);
    }

    private static void count() {
        due("letters", with("0", "01001").count(), 3);
        due("none", with("2", "01001").count(), 0);
        due("none in no text", with("2", "").count(), 0);
        due("empty ones", with("e", "0100").count(), 5);
        due("one in no text", with("e", "").count(), 1);
        due("empty at 10 letters", with("e", "0000000000").count(), 11);
        due("not within one another", with("00&", "00000").count(), 2);
        due("an empty one where one ended", with("0*", "001").count(), 3);
        due("an empty one at n", with("0*", "00").count(), 2);
        due("an empty one and a longer one after", with("1e|", "011").count(), 4);
        due("an empty one is preferred", with("e1|", "11").count(), 3);
        due("gaps", with("11&", "0110110").count(), 2);
    }

    private static void longest() {
        due("of three", with("0*1&", "1010010").longest(), 3);
        due("the first is longest", with("0*1&", "0010101").longest(), 3);
        due("the last is longest", with("0*", "1000").longest(), 3);
        due("empty ones", with("e", "010").longest(), 0);
        due("none", with("2", "010").longest(), NONE);
        due("none in no text", with("2", "").longest(), NONE);
        due("the whole", with(".*", "0120120120").longest(), 10);
        due("not a longer run that is not preferred", with("0?", "000").longest(), 0);
        due("not a longer run inside another find", with("01&1.*&|", "0100").longest(), 2);
    }
}
