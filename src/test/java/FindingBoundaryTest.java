/** A test of its own for each sentence of promises 14 to 23 that names a boundary case. */
public final class FindingBoundaryTest extends Checks {
    private static final String TEN_ZEROS = times(10, "0");
    private static final int[] LENGTHS = {0, 1, 2, 9, 10};

    public static void main(String[] args) {
        test("14 c not 0 to 2 answers BAD_ARG", FindingBoundaryTest::feedOutOfRange);
        test("14 10 letters answers FULL", FindingBoundaryTest::feedFull);
        test("14 Tested in this order", FindingBoundaryTest::feedOrder);
        test("14 Otherwise the new n", FindingBoundaryTest::feedAnswers);
        test("15 The text has no letter from now on", FindingBoundaryTest::erases);
        test("16 n", FindingBoundaryTest::lengths);
        test("17 NONE if there is none", FindingBoundaryTest::findNone);
        test("17 NONE if f is not 0 to n", FindingBoundaryTest::findOutOfRange);
        test("18 The end of the find", FindingBoundaryTest::ends);
        test("18 NONE as for find: there is none", FindingBoundaryTest::endNone);
        test("18 NONE as for find: f is not 0 to n", FindingBoundaryTest::endOutOfRange);
        test("19 16 times the begin plus the end", FindingBoundaryTest::groupsInFind);
        test("19 NONE if it is unset", FindingBoundaryTest::groupInUnset);
        test("19 NONE if g is not 0 to 2", FindingBoundaryTest::groupInWrongGroup);
        test("19 NONE if there is no find", FindingBoundaryTest::groupInNoFind);
        test("19 NONE if two of them hold", FindingBoundaryTest::groupInNoneTwice);
        test("20 Whether there is a run from i that ends at j", FindingBoundaryTest::spansRuns);
        test("20 false if i is not 0 to n", FindingBoundaryTest::spansWrongBegin);
        test("20 false if j is not 0 to n", FindingBoundaryTest::spansWrongEnd);
        test("20 false if neither is 0 to n", FindingBoundaryTest::spansBothWrong);
        test("21 16 times the begin plus the end", FindingBoundaryTest::groupsInWhole);
        test("21 the first run from 0 that ends at n", FindingBoundaryTest::firstWholeRun);
        test("21 NONE if it is unset", FindingBoundaryTest::wholeUnset);
        test("21 NONE if g is not 0 to 2", FindingBoundaryTest::wholeWrongGroup);
        test("21 NONE if there is no such run", FindingBoundaryTest::wholeNoRun);
        test("22 the first from 0 on", FindingBoundaryTest::countFirst);
        test("22 the next from j on", FindingBoundaryTest::countNext);
        test("22 or from j + 1 on if it began at j too", FindingBoundaryTest::countAfterEmpty);
        test("22 none if that is greater than n", FindingBoundaryTest::countToTheEnd);
        test("23 The greatest difference of end and begin", FindingBoundaryTest::longestOfFinds);
        test("23 NONE if there is none", FindingBoundaryTest::longestNone);
        finish();
    }

    private static void feedOutOfRange() {
        for (int c = 0; c <= 2; c++) {
            due("feed(" + c + ")", with("e", "01").feed(c), 3);
            due("feed(" + c + ") is that letter", with("" + c, "" + c).find(0), 0);
        }
        for (int c : NOT_0_TO_2) {
            refused(BUSY.text(""), "feed(" + c + ")", x -> x.feed(c), BAD_ARG);
            refused(BUSY.stack("0a1"), "feed(" + c + ")", x -> x.feed(c), BAD_ARG);
            refused(BUSY.text("200102001"), "feed(" + c + ")", x -> x.feed(c), BAD_ARG);
        }
    }

    private static void feedFull() {
        for (int c = 0; c <= 2; c++) {
            int letter = c;
            due("with nine letters", with("e", "012012012").feed(c), 10);
            refused(BUSY.text("2001020012"), "feed(" + c + ")", x -> x.feed(letter), FULL);
            refused(BUSY.text(TEN_ZEROS).stack("0a1"), "feed(" + c + ")", x -> x.feed(letter), FULL);
        }
        RegexCaptures x = with("e", TEN_ZEROS);
        due("again and again", x.feed(0), FULL);
        due("again and again", x.feed(0), FULL);
        x.erase();
        due("after erase", x.feed(0), 1);
    }

    private static void feedOrder() {
        for (int c : NOT_0_TO_2) {
            refused(BUSY.text("2001020012"), "feed(" + c + ")", x -> x.feed(c), BAD_ARG);
        }
    }

    private static void feedAnswers() {
        RegexCaptures x = new RegexCaptures();
        for (int n = 1; n <= 10; n++) {
            due("feed number " + n, x.feed(n % 3), n);
            due("length", x.length(), n);
        }
    }

    private static void erases() {
        for (int n : LENGTHS) {
            RegexCaptures x = BUSY.text(times(n, "2")).stack("0a1").make();
            x.erase();
            due("of " + n, told(x), told(BUSY.text("").stack("0a1").make()));
            x.erase();
            due("again", x.length(), 0);
            due("the first letter after it", x.feed(0), 1);
            due("no letter of before", found(x), found(BUSY.text("0").make()));
        }
        RegexCaptures x = with("1", times(10, "1"));
        x.erase();
        write(x, TEN_ZEROS);
        due("ten letters after it", x.length(), 10);
        due("the eleventh", x.feed(0), FULL);
        due("no letter of before among ten", x.find(0), NONE);
    }

    private static void lengths() {
        RegexCaptures x = new RegexCaptures();
        due("the least", x.length(), 0);
        x.feed(3);
        due("after a wrong letter", x.length(), 0);
        write(x, TEN_ZEROS);
        due("the greatest", x.length(), 10);
        x.feed(0);
        due("after a letter too many", x.length(), 10);
        x.any();
        x.define();
        due("after define", x.length(), 10);
        x.erase();
        due("after erase", x.length(), 0);
    }

    private static void findNone() {
        for (int n : LENGTHS) {
            RegexCaptures x = with("1", times(n, "0"));
            for (int f = 0; f <= n; f++) {
                due("find(" + f + ") in " + n, x.find(f), NONE);
            }
        }
        RegexCaptures x = with("1", "0100");
        due("f before the begin", x.find(0), 1);
        due("f at the begin", x.find(1), 1);
        due("f just after the begin", x.find(2), NONE);
        due("f at n", x.find(4), NONE);
        due("a letter at n - 1 of ten, from n - 1", with("1", "0000000001").find(9), 9);
        due("a letter at n - 1 of ten, from n", with("1", "0000000001").find(10), NONE);
    }

    /** Just outside of 0 to n, the ends of int, and more that an index could be made of. */
    private static int[] notPlaces(int n) {
        return new int[] {-1, n + 1, LEAST, GREATEST, -n - 1, -11, n + 11, 12, 16, 176, LEAST + n, 1 << 16, -1171354717};
    }

    /** A text of n letters, in place of one that was longer: what was found there must be gone. */
    private static RegexCaptures shortened(String postfix, int n) {
        RegexCaptures x = with(postfix, TEN_ZEROS);
        x.erase();
        write(x, times(n, "0"));
        return x;
    }

    private static void findOutOfRange() {
        for (int n : LENGTHS) {
            RegexCaptures x = shortened("e", n);
            due("find(0) in " + n, x.find(0), 0);
            due("find(n) in " + n, x.find(n), n);
            for (int f : notPlaces(n)) {
                due("find(" + f + ") in " + n, x.find(f), NONE);
            }
        }
    }

    private static void ends() {
        for (int n : LENGTHS) {
            RegexCaptures x = with("0*", times(n, "0"));
            due("end(0) in " + n, x.end(0), n);
            due("end(n) in " + n, x.end(n), n);
        }
        due("at its begin", with("0?", "00").end(1), 1);
        due("of a find that begins after f", with("1.&", "0010").end(0), 4);
        due("of a find that begins at f", with("1.&", "0010").end(2), 4);
    }

    private static void endNone() {
        for (int n : LENGTHS) {
            RegexCaptures x = with("1", times(n, "0"));
            for (int f = 0; f <= n; f++) {
                due("end(" + f + ") in " + n, x.end(f), NONE);
            }
        }
        due("f just after the begin", with("1.*&", "0100").end(2), NONE);
        due("f at n", with(".", TEN_ZEROS).end(10), NONE);
    }

    private static void endOutOfRange() {
        for (int n : LENGTHS) {
            RegexCaptures x = shortened("e", n);
            due("end(0) in " + n, x.end(0), 0);
            due("end(n) in " + n, x.end(n), n);
            for (int f : notPlaces(n)) {
                due("end(" + f + ") in " + n, x.end(f), NONE);
            }
        }
    }

    private static void groupsInFind() {
        due("0 to 0", with("ea", "").groupIn(0, 0), 0);
        due("0 to 1", with(".b", "0").groupIn(0, 1), 1);
        due("1 to 1", with("0ec&", "0").groupIn(0, 2), 16 + 1);
        due("0 to 10", with(".*c", TEN_ZEROS).groupIn(0, 2), 10);
        due("9 to 10", with(".b", TEN_ZEROS).groupIn(9, 1), 16 * 9 + 10);
        due("10 to 10", with("ea", TEN_ZEROS).groupIn(10, 0), 16 * 10 + 10);
        RegexCaptures x = with("1a", "01010");
        due("the find begins after f", x.groupIn(0, 0), 16 + 2);
        due("the find begins at f", x.groupIn(1, 0), 16 + 2);
        due("the next find", x.groupIn(2, 0), 16 * 3 + 4);
    }

    private static void groupInUnset() {
        for (int g = 0; g <= 2; g++) {
            due("no group in it, group " + g, with("e", "").groupIn(0, g), NONE);
            due("all groups in what is not done, group " + g, with("0abc*", "").groupIn(0, g), NONE);
            due("all groups in what is not done, at n, group " + g, with("0abc*", TEN_ZEROS).groupIn(10, g), NONE);
        }
        RegexCaptures x = with("0a1c|", "01");
        due("set in this find", x.groupIn(0, 0), 1);
        due("set in the next find only", x.groupIn(0, 2), NONE);
        due("set in the find before only", x.groupIn(1, 0), NONE);
        due("set in the run to the whole only", with("0a?", "0").groupIn(0, 0), NONE);
    }

    private static void groupInWrongGroup() {
        RegexCaptures x = with(".abc", TEN_ZEROS);
        for (int f = 0; f <= 9; f++) {
            for (int g = 0; g <= 2; g++) {
                due("groupIn(" + f + ", " + g + ")", x.groupIn(f, g), 16 * f + f + 1);
            }
            for (int g : NOT_0_TO_2) {
                due("groupIn(" + f + ", " + g + ")", x.groupIn(f, g), NONE);
            }
        }
    }

    private static void groupInNoFind() {
        due("no run", with("1abc", "0").groupIn(0, 0), NONE);
        due("only before f", with("1abc", "10").groupIn(1, 0), NONE);
        due("from n on", with(".abc", TEN_ZEROS).groupIn(10, 2), NONE);
        for (int n : LENGTHS) {
            RegexCaptures x = shortened("eabc", n);
            due("groupIn(0, 0) in " + n, x.groupIn(0, 0), 0);
            due("groupIn(n, 2) in " + n, x.groupIn(n, 2), 17 * n);
            for (int f : notPlaces(n)) {
                for (int g = 0; g <= 2; g++) {
                    due("groupIn(" + f + ", " + g + ") in " + n, x.groupIn(f, g), NONE);
                }
            }
        }
    }

    private static void groupInNoneTwice() {
        for (int g : NOT_0_TO_2) {
            due("no run and group " + g, with("1abc", "0").groupIn(0, g), NONE);
            due("unset and group " + g, with("0", "0").groupIn(0, g), NONE);
            RegexCaptures x = with("eabc", TEN_ZEROS);
            for (int f : notPlaces(10)) {
                due("groupIn(" + f + ", " + g + ")", x.groupIn(f, g), NONE);
            }
        }
    }

    private static void spansRuns() {
        RegexCaptures x = with("00&*", TEN_ZEROS);
        due("0 to n", x.spans(0, 10), true);
        due("0 to n - 1", x.spans(0, 9), false);
        due("1 to n", x.spans(1, 10), false);
        due("n to n", x.spans(10, 10), true);
        due("n to 0", x.spans(10, 0), false);
        due("2 to 0", x.spans(2, 0), false);
        due("no text", with("0*", "").spans(0, 0), true);
        due("no run in no text", with("0", "").spans(0, 0), false);
        due("a run that is not the first", with("0?", "0").spans(0, 1), true);
        due("a shorter run than the first", with(".*1&", "0101").spans(1, 2), true);
        due("one letter further than the run", with("0", "00").spans(0, 2), false);
    }

    private static void spansWrongBegin() {
        for (int n : LENGTHS) {
            RegexCaptures x = shortened(".*", n);
            due("spans(0, n) in " + n, x.spans(0, n), true);
            due("spans(n, n) in " + n, x.spans(n, n), true);
            for (int i : notPlaces(n)) {
                due("spans(" + i + ", 0) in " + n, x.spans(i, 0), false);
                due("spans(" + i + ", n) in " + n, x.spans(i, n), false);
            }
        }
    }

    private static void spansWrongEnd() {
        for (int n : LENGTHS) {
            RegexCaptures x = shortened(".*", n);
            due("spans(0, 0) in " + n, x.spans(0, 0), true);
            for (int j : notPlaces(n)) {
                due("spans(0, " + j + ") in " + n, x.spans(0, j), false);
                due("spans(n, " + j + ") in " + n, x.spans(n, j), false);
            }
        }
    }

    private static void spansBothWrong() {
        for (int n : LENGTHS) {
            RegexCaptures x = shortened(".*", n);
            for (int i : notPlaces(n)) {
                for (int j : notPlaces(n)) {
                    due("spans(" + i + ", " + j + ") in " + n, x.spans(i, j), false);
                }
            }
        }
    }

    private static void groupsInWhole() {
        due("0 to 0", with("ea", "").groupInWhole(0), 0);
        due("0 to 1", with(".b", "0").groupInWhole(1), 1);
        due("0 to 10", with(".*c", TEN_ZEROS).groupInWhole(2), 10);
        due("9 to 10", with(".*.b&", TEN_ZEROS).groupInWhole(1), 16 * 9 + 10);
        due("10 to 10", with(".*ea&", TEN_ZEROS).groupInWhole(0), 16 * 10 + 10);
        due("0 to 0 of ten", with("ea.*&", TEN_ZEROS).groupInWhole(0), 0);
    }

    private static void firstWholeRun() {
        RegexCaptures x = with("0a0*&00&b|", "00");
        due("the first of two to n", x.groupInWhole(0), 1);
        due("not the second of two to n", x.groupInWhole(1), NONE);
        RegexCaptures y = with("0a00&b|", "00");
        due("the find ends before n", y.end(0), 1);
        due("the find sets group 0", y.groupIn(0, 0), 1);
        due("the run to n does not", y.groupInWhole(0), NONE);
        due("it sets group 1", y.groupInWhole(1), 2);
        due("n is the text's of now", wholeAfterFeed("0*a", "00", 0), 3);
    }

    private static int wholeAfterFeed(String postfix, String text, int c) {
        RegexCaptures x = with(postfix, text);
        x.feed(c);
        return x.groupInWhole(0);
    }

    private static void wholeUnset() {
        for (int g = 0; g <= 2; g++) {
            due("no group in it, group " + g, with("0", "0").groupInWhole(g), NONE);
            due("no text, group " + g, with("0abc*", "").groupInWhole(g), NONE);
            due("the choice not taken, group " + g, with("00abc|", "0").groupInWhole(g), NONE);
        }
        due("set in the find only", with("ea0|", "0").groupInWhole(0), NONE);
    }

    private static void wholeWrongGroup() {
        for (int n : LENGTHS) {
            RegexCaptures x = with(".*abc", times(n, "0"));
            for (int g = 0; g <= 2; g++) {
                due("groupInWhole(" + g + ") of " + n, x.groupInWhole(g), n);
            }
            for (int g : NOT_0_TO_2) {
                due("groupInWhole(" + g + ") of " + n, x.groupInWhole(g), NONE);
            }
        }
        for (int g : NOT_0_TO_2) {
            due("no such run and group " + g, with("1abc", "0").groupInWhole(g), NONE);
        }
    }

    private static void wholeNoRun() {
        due("no run at all", with("1abc", "0").groupInWhole(0), NONE);
        due("no run in no text", with("1abc", "").groupInWhole(0), NONE);
        due("a run from 0 to n - 1", with("0abc", "00").groupInWhole(0), NONE);
        due("a run from 1 to n", with("1abc", "01").groupInWhole(0), NONE);
        due("a run from 0 to 9 of ten", with("0*abc", "0000000001").groupInWhole(1), NONE);
        due("a run to n that a letter more has ended", wholeAfterFeed("0*a", "00", 1), NONE);
    }

    private static void countFirst() {
        due("at 0", with("1", "1000").count(), 1);
        due("at n - 1", with("1", "0000000001").count(), 1);
        due("none in no text", with("1", "").count(), 0);
        due("none in ten letters", with("1", TEN_ZEROS).count(), 0);
        due("one in no text", with("e", "").count(), 1);
    }

    private static void countNext() {
        due("one after the other", with(".", TEN_ZEROS).count(), 10);
        due("not within the one before", with("00&", "000").count(), 1);
        due("right at its end", with("00&", "0000").count(), 2);
        due("after a gap", with("0", "0110").count(), 2);
        due("an empty one right at its end", with("0*", "01").count(), 3);
        due("an empty one at n", with(".*", TEN_ZEROS).count(), 2);
        due("no empty one at n", with("..*&", TEN_ZEROS).count(), 1);
    }

    private static void countAfterEmpty() {
        due("all of them empty", with("e", "00").count(), 3);
        due("a longer one after an empty one", with("1e|", "01").count(), 3);
        due("a longer one after an empty one, its length", with("11&e|", "011").longest(), 2);
        due("an empty one before the letter it might take", with("e1|", "11").count(), 3);
        due("one that is not empty goes on from j", with("0e|", "00").count(), 3);
    }

    private static void countToTheEnd() {
        for (int n : LENGTHS) {
            due("empty ones in " + n, with("e", times(n, "0")).count(), n + 1);
            due("lazy ones in " + n, with(".?", times(n, "0")).count(), n + 1);
            due("empty ones in " + n + " that was longer", shortened("e", n).count(), n + 1);
        }
        due("an empty one at n after a letter", with("0*", "0").count(), 2);
    }

    private static void longestOfFinds() {
        for (int n : LENGTHS) {
            due("the whole of " + n, with(".*", times(n, "0")).longest(), n);
            due("empty ones in " + n, with("e", times(n, "0")).longest(), 0);
        }
        due("the first", with("0*1&", "001011").longest(), 3);
        due("the last", with("0*1&", "101001").longest(), 3);
        due("the one between", with("0*1&", "100101").longest(), 3);
        due("an empty one after it", with("0*", "0001").longest(), 3);
        due("the last one, up to n", with("0*", "1110000000").longest(), 7);
        due("not of a run that is not a find", with("01&1.*&|", "0100").longest(), 2);
    }

    private static void longestNone() {
        for (int n : LENGTHS) {
            due("in " + n, with("1", times(n, "0")).longest(), NONE);
        }
        due("an empty one is one", with("1*", "").longest(), 0);
        due("a text too short", with("00&", "0").longest(), NONE);
        due("erased", shortened("0", 0).longest(), NONE);
    }
}
