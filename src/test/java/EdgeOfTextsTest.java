import java.util.List;

/** The edges of 1 TEXTS and of the FAULTS: a test for each sentence that names one, in the document's order. */
public final class EdgeOfTextsTest {
    private static final String MOST = "999999999999999999";
    private static final List<String> KEYWORDS = List.of("source", "lag", "marks", "after", "group", "union", "delay",
        "hold", "join", "from", "to", "window", "size", "step", "align");

    /** A text for each place of a NUMBER, with # there, and the least and the greatest one that may stand. */
    private static final String[][] NUMBERS = {
        {"a=source # marks;", "1", "4"},
        {"a=source 1 lag #;", "0", MOST},
        {"a=source 1 lag 0 after #;", "1", "1000"},
        {"a=source 1 marks after #;", "1", "1000"},
        {"a=source 1 lag 0 group #;", "0", "3"},
        {"a=source 1 marks after 1 group #;", "0", "3"},
        {Check.sources(1) + "d=delay a #;", "0", MOST},
        {Check.sources(2) + "j=join a b from # to " + MOST + ";", "0", MOST},
        {Check.sources(2) + "j=join a b from -# to 0;", "0", MOST},
        {Check.sources(2) + "j=join a b from 0 to #;", "0", MOST},
        {Check.sources(2) + "j=join a b from -" + MOST + " to -#;", "0", MOST},
        {Check.sources(1) + "w=window a size # step 1;", "1", "4"},
        {Check.sources(1) + "w=window a size 1 step #;", "1", "1"},
        {Check.sources(1) + "w=window a size 1000000 step #;", "250000", "1000000"},
        {"align # 0;", "0", "3"},
        {"align 0 #;", "0", MOST},
    };

    private static boolean isBlank(int b) {
        return b == 9 || b == 10 || b == 13 || b == 32;
    }

    /** "BLANKS (9, 10, 13, 32)", "letters a .. z", "digits 0 .. 9", "the SIGNS = ; -": each byte as the whole text. */
    private static void eachByteAlone() {
        for (int b = 0; b < 256; b++) {
            boolean isName = b >= 'a' && b <= 'z';
            boolean isToken = isName || b >= '0' && b <= '9' || b == '=' || b == ';' || b == '-';
            String want = isName || isBlank(b) ? "1:2" : isToken ? "0:2" : "0:1";
            Check.due("a text of byte " + b, want, Check.faultOf("" + (char) b));
        }
    }

    /** "with BLANKS between where one likes": each byte behind a NAME. */
    private static void eachByteBehindAName() {
        for (int b = 0; b < 256; b++) {
            boolean isGood = isBlank(b) || b >= 'a' && b <= 'z';
            boolean isToken = b >= '0' && b <= '9' || b == ';' || b == '-';
            String want = isGood ? "none" : b == '=' ? "2:2" : isToken ? "1:2" : "1:1";
            Check.due("byte " + b + " behind a NAME", want, Check.faultOf("a" + (char) b + "=source 1 marks;"));
        }
    }

    private static void blanksEverywhere() {
        String[] tokens = {"a", "=", "source", "1", "lag", "0", "after", "1", "group", "0", ";", "b", "=", "source", "1",
            "marks", ";", "j", "=", "join", "a", "b", "from", "-", "5", "to", "-", "4", ";"};
        for (String blank : List.of("\t", "\n", "\r", " ", "\t\n\r ", "    ")) {
            Check.good(blank + String.join(blank, tokens) + blank);
        }
        Check.good("a=source1lag0after1group0;b=source1marks;j=join a b from-5to-4;");
    }

    /** "TOKENS, as long as can be" */
    private static void tokensAsLongAsCanBe() {
        Check.good("sourcex=source 1 marks;tox=hold sourcex;alignx=hold tox;");
        Check.bad("a=@sourcex 1 marks;", 2);
        Check.bad("a=source 1 @lagmarks;", 2);
        Check.bad("aligna @0 1;", 2);
        Check.bad("a=source @11 marks;", 5);
        Check.bad("a=source 1 lag 1 @1;", 2);
        Check.bad("a=source 1 lag 1@a;", 2);
        Check.bad("a@1=source 1 marks;", 2);
        Check.bad("a=@=source 1 marks;", 2);
        Check.bad(Check.sources(1) + "@;", 2);
        Check.bad("a=source 1 marks after@-1;", 2);
        // Tokens that share a number inside: the letters and signs that these digits are the codes of.
        Check.bad("a @61 source 1 marks;", 2);
        Check.bad("a=source 1 marks @59", 2);
        Check.bad(Check.sources(2) + "j=join a b from 45 @1 to 2;", 2);
        Check.bad("@97=source 1 marks;", 2);
    }

    /** "WORDS: letters a .. z, at most 8 (more letters: no token begins at the first one)" */
    private static void wordsOfEightLetters() {
        Check.good("abcdefgh=source 1 marks;hgfedcba=hold abcdefgh;");
        Check.bad("@abcdefghi=source 1 marks;", 1);
        Check.bad(Check.sources(1) + "  @zzzzzzzzz=hold a;", 1);
        Check.bad("a=@abcdefghi", 1);
        Check.bad("a=source 1 @marksmark;", 1);
        Check.bad(Check.sources(1) + "h=hold @aaaaaaaaa;", 1);
        Check.bad(Check.sources(2) + "u=union a b @aaaaaaaaa;", 1);
        Check.bad("@" + "a".repeat(600), 1);
        // Names that differ in one letter alone, the first and the last one of eight too.
        Check.good("abcdefgh=source 1 marks;bbcdefgh=source 1 marks;abcdefgi=source 1 marks;abcdefg=source 1 marks;"
            + "bcdefgh=source 1 marks;");
        Check.bad("abcdefgh=source 1 marks;@abcdefgh=source 1 marks;", 3);
    }

    /** "NUMBERS: digits 0 .. 9, at most 18 (more digits: no token begins at the first one)" */
    private static void numbersOfEighteenDigits() {
        for (String[] number : NUMBERS) {
            String least = number[1];
            Check.good(number[0].replace("#", "0".repeat(18 - least.length()) + least));
            Check.bad(number[0].replace("#", "@" + "0".repeat(19 - least.length()) + least), 1);
            Check.bad(number[0].replace("#", "@1000000000000000000"), 1);
            Check.bad(number[0].replace("#", "@18446744073709551617"), 1);
        }
        Check.bad("a=source 1 lag @" + "9".repeat(500), 1);
    }

    /** "PARTS 1 .. 4, AFTER 1 .. 1000, G 0 .. 3", "1 .. 1000000 each", "any ones where no bounds stand" */
    private static void numbersWithinTheirBounds() {
        for (String[] number : NUMBERS) {
            long least = Long.parseLong(number[1]);
            long most = Long.parseLong(number[2]);
            Check.good(number[0].replace("#", number[1]));
            Check.good(number[0].replace("#", number[2]));
            // Above 4 STEP, the fault of a SIZE stands at STEP: see stepsOfSizes().
            if (least > 0) {
                Check.bad(number[0].replace("#", "@" + (least - 1)), 5);
                Check.bad(number[0].replace("#", "@0"), 5);
            }
            if (most < Long.parseLong(MOST) && !number[0].contains("size #")) {
                Check.bad(number[0].replace("#", "@" + (most + 1)), 5);
                // What would be within bounds with 32 bits alone.
                Check.bad(number[0].replace("#", "@" + ((1L << 32) + least)), 5);
                Check.bad(number[0].replace("#", "@" + MOST), 5);
            }
        }
    }

    /** A NUMBER has no sign but behind from and to. */
    private static void noSignAhead() {
        for (String[] number : NUMBERS) {
            if (!number[0].contains("from")) {
                Check.bad(number[0].replace("#", "@-" + number[1]), 2);
            }
        }
        Check.bad(Check.sources(2) + "j=join a b from -@-1 to 0;", 2);
        Check.bad(Check.sources(2) + "j=join a b from 0 to -@-1;", 2);
    }

    /** "KEYWORDS are ..; all other WORDS are NAMES." */
    private static void keywordsAreNoNames() {
        for (String word : KEYWORDS) {
            Check.bad(word.equals("align") ? "align@=source 1 marks;" : "@" + word + "=source 1 marks;", 2);
            Check.bad(Check.sources(1) + "h=hold @" + word + ";", 2);
            Check.good(word.substring(0, word.length() - 1) + "=source 1 marks;");
            Check.good(word + "s=source 1 marks;");
            Check.good("x" + word + "=source 1 marks;");
        }
        // Words of print() that are no keywords.
        Check.good("start=source 1 marks;end=hold start;idle=hold end;");
    }

    /** "A text is 1 to 20 STATEMENTS" */
    private static void noStatement() {
        Check.bad("@", 2);
        Check.bad(" \t\r\n@", 2);
        Check.bad("@;", 2);
        Check.good("a=source 1 marks;");
        Check.good("align 0 0;");
        // Twelve streams and four groups are the most that can stand, so that a 21st statement never comes.
        Check.good(Check.sources(12) + "align 0 0;align 1 1;align 2 2;align 3 3;");
    }

    /** "[ ] may be left out" */
    private static void whatMayBeLeftOut() {
        for (String kind : List.of("lag 5", "marks")) {
            Check.good("a=source 1 " + kind + ";");
            Check.good("a=source 1 " + kind + " after 1;");
            Check.good("a=source 1 " + kind + " group 1;");
            Check.good("a=source 1 " + kind + " after 1 group 1;");
            Check.bad("a=source 1 " + kind + " group 1 @after 1;", 2);
            Check.bad("a=source 1 " + kind + " after 1 @after 1;", 2);
            Check.bad("a=source 1 " + kind + " group 1 @group 1;", 2);
            Check.bad("a=source 1 " + kind + " @1;", 2);
        }
        Check.bad("a=source 1 marks @lag 5;", 2);
        Check.bad("a=source 1 lag 5 @marks;", 2);
        Check.bad("a=source 1 @after 5;", 2);
    }

    /** "union NAME NAME [NAME [NAME]]" */
    private static void unionsOfTwoToFour() {
        Check.bad(Check.sources(5) + "u=union @;", 2);
        Check.bad(Check.sources(5) + "u=union a@;", 2);
        Check.good(Check.sources(5) + "u=union a b;");
        Check.good(Check.sources(5) + "u=union a b c;");
        Check.good(Check.sources(5) + "u=union a b c d;");
        Check.bad(Check.sources(5) + "u=union a b c d @e;", 2);
        // Where no fifth one can come, it does not matter that it was not told.
        Check.bad(Check.sources(5) + "u=union a b c d @x;", 2);
        Check.bad(Check.sources(5) + "u=union a b @=c;", 2);
    }

    /** "FROM not above TO", "TO below FROM (at TO's NUMBER)" */
    private static void fromNotAboveTo() {
        String join = Check.sources(2) + "j=join a b ";
        Check.good(join + "from 5 to 5;");
        Check.bad(join + "from 5 to @4;", 5);
        Check.good(join + "from -5 to -5;");
        Check.good(join + "from -5 to -4;");
        Check.bad(join + "from -5 to -@6;", 5);
        Check.good(join + "from -0 to 0;");
        Check.good(join + "from 0 to -0;");
        Check.bad(join + "from 0 to -@1;", 5);
        Check.bad(join + "from 1 to -@0;", 5);
        Check.good(join + "from -1 to 0;");
        Check.good(join + "from -" + MOST + " to -" + MOST + ";");
        Check.good(join + "from " + MOST + " to " + MOST + ";");
        Check.bad(join + "from " + MOST + " to -   @" + MOST + ";", 5);
        Check.bad(join + "from " + MOST + " to @999999999999999998;", 5);
    }

    /** "STEP not above SIZE, SIZE not above 4 STEP" (at STEP's) */
    private static void stepsOfSizes() {
        String window = Check.sources(1) + "w=window a size ";
        for (int size : new int[] {1, 2, 3, 4, 5, 8, 9, 1000, 1001, 999999, 1000000}) {
            int least = (size + 3) / 4;
            Check.good(window + size + " step " + least + ";");
            Check.good(window + size + " step " + size + ";");
            Check.bad(window + size + " step @" + (least - 1) + ";", 5);
            Check.bad(window + size + " step @" + (size + 1) + ";", 5);
        }
        Check.bad(window + "@0 step 1;", 5);
        Check.bad(window + "@1000001 step 1000000;", 5);
        Check.bad(window + "@1000001 step 1;", 5);
        Check.bad(window + "@4294967297 step 1;", 5);
        Check.bad(window + "1000000 step @1000001;", 5);
    }

    /** "a group that is aligned already (at G)" */
    private static void groupsAlignedOnce() {
        for (int group = 0; group < 4; group++) {
            // A SPAN of 1, of 0 and the greatest one all make the group an aligned one.
            for (String span : List.of("0", "1", MOST)) {
                Check.bad("align " + group + " " + span + ";align @" + group + " 5;", 5);
            }
            Check.good("align " + group + " 0;align " + (group + 1) % 4 + " 0;");
        }
        Check.good("a=source 1 marks group 2;align 2 0;b=source 1 marks group 2;");
        Check.bad("a=source 1 marks group 2;align 2 0;b=source 1 marks group 2;align @2 0;", 5);
    }

    private static final String[] INPUTS = {"hold #;", "delay # 5;", "window # size 1 step 1;", "union # y;", "union x #;",
        "union x y #;", "union x y z #;", "join # y from 0 to 0;", "join x # from 0 to 0;"};

    /** "an input's NAME that was not told before, or whose stream is TAKEN (in this statement, too)" */
    private static void inputsToldAndNotTaken() {
        String told = "x=source 1 marks;y=source 1 marks;z=source 1 marks;i=source 1 marks;";
        for (String input : INPUTS) {
            Check.good(told + "s=" + input.replace("#", "i"));
            Check.bad(told + "s=" + input.replace("#", "@q"), 4);
            Check.bad(told + "s=" + input.replace("#", "@s"), 4);
            Check.bad(told + "s=" + input.replace("#", "@q") + "q=source 1 marks;", 4);
            Check.bad(told + "s=" + input.replace("#", "@5"), 2);
            Check.bad(told + "s=" + input.replace("#", "@lag"), 2);
            for (String taker : INPUTS) {
                String free = taker.replaceAll("\\by\\b", "l").replaceAll("\\bx\\b", "m").replaceAll("\\bz\\b", "n");
                Check.bad(told + "l=source 1 marks;m=source 1 marks;n=source 1 marks;t=" + free.replace("#", "i") + "s="
                    + input.replace("#", "@i"), 4);
            }
        }
        Check.bad(told + "s=union x @x;", 4);
        Check.bad(told + "s=union x y @x;", 4);
        Check.bad(told + "s=union x y @y;", 4);
        Check.bad(told + "s=union x y z @x;", 4);
        Check.bad(told + "s=union x y z @z;", 4);
        Check.bad(told + "s=join x @x from 0 to 0;", 4);
        Check.bad("h=hold @a;" + Check.sources(1), 4);
    }

    /** "a NAME at the beginning of a statement that was told already" */
    private static void namesToldOnce() {
        Check.bad(Check.sources(3) + "@a=source 1 marks;", 3);
        Check.bad(Check.sources(3) + "@c=hold a;", 3);
        Check.bad(Check.sources(1) + "h=hold a;@h=source 1 marks;", 3);
        Check.bad(Check.sources(1) + "h=hold a;@a=hold h;", 3);
        Check.bad(Check.sources(1) + "@a", 3);
        Check.bad(Check.sources(1) + "@a#", 3);
    }

    /** "FAULTS, at a token's first byte (how many bytes there are, where it ends too early)" */
    private static void textsThatEndTooEarly() {
        String[] tokens = {"a", "=", "source", "2", "lag", "5", "after", "6", "group", "1", ";", "b", "=", "source", "1",
            "marks", ";", "align", "1", "7", ";", "j", "=", "join", "a", "b", "from", "-", "5", "to", "-", "4", ";", "c", "=",
            "source", "1", "marks", ";", "u", "=", "union", "c", "j", ";", "d", "=", "delay", "u", "5", ";", "h", "=", "hold",
            "d", ";", "w", "=", "window", "h", "size", "5", "step", "5", ";"};
        StringBuilder text = new StringBuilder();
        for (String token : tokens) {
            text.append(token);
            for (String blanks : List.of("", " ", "\n \t")) {
                if (token.equals(";")) {
                    Check.good(text + blanks);
                } else {
                    Check.bad(text + blanks + "@", 2);
                }
            }
            text.append(' ');
        }
    }

    /** "the first one, of one token the least" */
    private static void firstAndLeastFault() {
        Check.bad("a=source @9 marks;#", 5);
        Check.bad("@;#", 2);
        Check.bad(Check.sources(1) + "@a=source 9 marks;", 3);
        Check.bad(Check.sources(1) + "h=hold @q lag;", 4);
        String twelve = Check.sources(12);
        Check.bad(twelve + "@m=source 9 marks;", 6);
        Check.bad(twelve + "@m", 6);
        Check.bad(twelve + "@a=source 1 marks;", 3);
        Check.bad(twelve + "@source", 2);
        Check.bad(twelve + "@abcdefghi", 1);
        Check.bad(twelve + "@#", 1);
        Check.bad(twelve + "@7", 2);
    }

    /** "6 MANY: the 13th stream (at its NAME), the 4th join, the 4th window (at that word)" */
    private static void many() {
        Check.good(Check.sources(11));
        Check.good(Check.sources(12));
        Check.bad(Check.sources(12) + "@m=source 1 marks;", 6);
        Check.good(Check.sources(11) + "z=hold a;");
        Check.bad(Check.sources(11) + "z=hold a;@y=hold z;", 6);
        Check.good(Check.sources(12) + "align 0 0;");
        Check.bad(Check.sources(12) + "align 0 0;@z=hold a;", 6);
        String joins = Check.sources(7) + "p=join a b from 0 to 1;q=join c d from 0 to 1;r=join e f from 0 to 1;";
        Check.good(joins);
        Check.bad(joins + "s=@join p q from 0 to 1;", 6);
        Check.bad(joins + "s=@join", 6);
        Check.bad(joins + "s=@join x x;", 6);
        Check.good(joins + "s=window p size 1 step 1;");
        String windows = Check.sources(5) + "p=window a size 1 step 1;q=window b size 1 step 1;r=window c size 1 step 1;";
        Check.good(windows);
        Check.bad(windows + "s=@window d size 1 step 1;", 6);
        Check.bad(windows + "s=@window", 6);
        Check.good(windows + "s=join p q from 0 to 1;");
        Check.good(Check.sources(6) + "p=join a b from 0 to 1;q=join p c from 0 to 1;r=join q d from 0 to 1;"
            + "s=window r size 1 step 1;t=window s size 1 step 1;u=window t size 1 step 1;");
    }

    /** What was told in one text does not count in the next one, whether it was built or not. */
    private static void manyInEachTextAnew() {
        WatermarkJoin x = new WatermarkJoin();
        String joins = Check.sources(6) + "p=join a b from 0 to 1;q=join c d from 0 to 1;r=join e f from 0 to 1;align 0 1;";
        for (int i = 0; i < 3; i++) {
            Check.due("three joins again", 9, Check.build(x, joins));
            Check.due("three joins and a fault", -10 - joins.length(), Check.build(x, joins + ";"));
        }
        Check.due("twelve streams", 12, Check.build(x, Check.sources(12)));
        Check.due("twelve streams again", 12, Check.build(x, Check.sources(12)));
    }

    public static void main(String[] args) {
        eachByteAlone();
        eachByteBehindAName();
        blanksEverywhere();
        tokensAsLongAsCanBe();
        wordsOfEightLetters();
        numbersOfEighteenDigits();
        numbersWithinTheirBounds();
        noSignAhead();
        keywordsAreNoNames();
        noStatement();
        whatMayBeLeftOut();
        unionsOfTwoToFour();
        fromNotAboveTo();
        stepsOfSizes();
        groupsAlignedOnce();
        inputsToldAndNotTaken();
        namesToldOnce();
        textsThatEndTooEarly();
        firstAndLeastFault();
        many();
        manyInEachTextAnew();
        Check.finish();
    }
}
