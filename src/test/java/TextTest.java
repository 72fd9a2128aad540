/** Texts and their faults (promises 3 and 4): an @ stands ahead of the token at which the fault is due. */
public final class TextTest {
    private static final String A = "a=source 1 marks;";
    private static final String AB = "a=source 1 marks;b=source 1 marks;";

    private static void tokens() {
        Check.good("abcdefgh=source 1 marks;");
        Check.bad("@abcdefghi=source 1 marks;", 1);
        Check.bad("a=@sourceeee 1 marks;", 1);
        Check.good("\t\n\r a\t=\nsource\r1 marks ; \n");
        Check.good("a=source1marks;b=delay a5;");
        Check.bad("@\u000b" + A, 1);
        Check.bad("@A=source 1 marks;", 1);
        Check.bad("a@_=source 1 marks;", 1);
        Check.bad("a=source 1 marks;@\0", 1);
        Check.bad("a=source 1 marks;@\u00ff", 1);
        Check.bad("@+", 1);
        Check.good("a=source 1 lag 999999999999999999;");
        Check.bad("a=source 1 lag @1000000000000000000;", 1);
        Check.bad("a=source 1 lag @0000000000000000001;", 1);
        Check.good("a=source 000000000000000001 lag 000000000000000000;");
        Check.good("sources=source 1 marks;tolag=hold sources;");
        String[] keywords = {"source", "lag", "marks", "after", "group", "union", "delay", "hold", "join", "from", "to",
            "window", "size", "step"};
        for (String keyword : keywords) {
            Check.bad("@" + keyword + "=source 1 marks;", 2);
            Check.bad(A + "h=hold @" + keyword + ";", 2);
        }
        Check.bad("align @= source 1 marks;", 2);
    }

    private static void endings() {
        Check.bad("@", 2);
        Check.bad("  \n@", 2);
        Check.bad("a@", 2);
        Check.bad("a=source 1 marks@", 2);
        Check.bad("a=source 1 marks  @", 2);
        Check.bad("a=source 1 lag 5@", 2);
        Check.bad(AB + "j=join a b from -@", 2);
        Check.bad("align 1 @", 2);
    }

    private static void sources() {
        Check.good("a=source 4 lag 0 after 1000 group 3;");
        Check.good("a=source 4 marks after 1 group 0;");
        Check.good("a=source 1 marks group 0;");
        Check.bad("a=source @0 marks;", 5);
        Check.bad("a=source @5 marks;", 5);
        Check.bad("a=source @- 1 marks;", 2);
        Check.bad("a=source @marks;", 2);
        Check.bad("a=source 1 @;", 2);
        Check.bad("a=source 1 lag @;", 2);
        Check.bad("a=source 1 lag @marks;", 2);
        Check.bad("a=source 1 marks @5;", 2);
        Check.bad("a=source 1 marks after @0;", 5);
        Check.bad("a=source 1 marks after @1001;", 5);
        Check.bad("a=source 1 marks group @4;", 5);
        Check.bad("a=source 1 marks group 1 @after 2;", 2);
        Check.bad("a=source 1 marks after 2 @after 2;", 2);
        Check.bad("a @source 1 marks;", 2);
        Check.bad("a=@b;", 2);
        Check.bad("a=@align 1 2;", 2);
        Check.bad("a=source 1 marks;@;", 2);
    }

    private static void namesAndInputs() {
        Check.bad(A + "@a=source 1 marks;", 3);
        Check.bad(A + "@a", 3);
        Check.bad(A + "h=hold @h;", 4);
        Check.bad(A + "h=hold @b;", 4);
        Check.bad(A + "h=hold a;i=hold @a;", 4);
        Check.bad(AB + "u=union a @a;", 4);
        Check.bad(AB + "j=join b @b from 0 to 1;", 4);
        Check.bad("h=hold @a;" + A, 4);
        Check.bad(A + "u=union a @;", 2);
        Check.bad(AB + "u=union a b @5;", 2);
        Check.good(AB + "u=union a b;");
        Check.good(AB + "c=source 1 marks;u=union c a b;");
        Check.good(AB + "c=source 1 marks;d=source 1 marks;u=union c a b d;");
        Check.bad(AB + "c=source 1 marks;d=source 1 marks;e=source 1 marks;u=union c a b d @e;", 2);
        Check.bad(A + "d=delay a @;", 2);
        Check.bad(A + "d=delay @5 a;", 2);
        Check.bad(A + "d=delay a @- 5;", 2);
        Check.good(A + "d=delay a 0;");
        Check.good(A + "d=delay a 999999999999999999;");
        Check.bad(A + "h=hold a @5;", 2);
    }

    private static void joins() {
        Check.good(AB + "j=join a b from 0 to 0;");
        Check.good(AB + "j=join b a from -5 to -5;");
        Check.good(AB + "j=join b a from - 999999999999999999 to 999999999999999999;");
        Check.good(AB + "j=join a b from -0 to -0;");
        Check.good(AB + "j=join a b from 0 to -0;");
        Check.bad(AB + "j=join a b from 1 to @0;", 5);
        Check.bad(AB + "j=join a b from 1 to -@5;", 5);
        Check.bad(AB + "j=join a b from 0 to -@1;", 5);
        Check.bad(AB + "j=join a b from -4 to -@5;", 5);
        Check.bad(AB + "j=join a b from - @- 4 to 5;", 2);
        Check.bad(AB + "j=join a b from - @to 5;", 2);
        Check.bad(AB + "j=join a b @to 5;", 2);
        Check.bad(AB + "j=join a @from 5 to 5;", 2);
        Check.bad(AB + "j=join a b from 5 @;", 2);
        Check.bad(AB + "j=join a b from 5 @- to 6;", 2);
    }

    private static void windows() {
        Check.good(A + "w=window a size 1 step 1;");
        Check.good(A + "w=window a size 1000000 step 250000;");
        Check.good(A + "w=window a size 1000000 step 1000000;");
        Check.bad(A + "w=window a size @0 step 1;", 5);
        Check.bad(A + "w=window a size @1000001 step 1000000;", 5);
        Check.bad(A + "w=window a size 1000000 step @249999;", 5);
        Check.bad(A + "w=window a size 5 step @6;", 5);
        Check.bad(A + "w=window a size 5 step @1;", 5);
        Check.good(A + "w=window a size 5 step 2;");
        Check.good(A + "w=window a size 4 step 1;");
        Check.bad(A + "w=window a size 1 step @0;", 5);
        Check.bad(A + "w=window a @step 1 size 1;", 2);
        Check.bad(A + "w=window a size 1 @;", 2);
    }

    private static void aligns() {
        Check.good("align 0 0;");
        Check.good("align 3 999999999999999999;align 0 5;align 1 6;align 2 7;");
        Check.bad("align @4 5;", 5);
        Check.bad("align 1 5;align @1 6;", 5);
        Check.bad("align 1 5;align @001 6;", 5);
        Check.bad("align 1 @;", 2);
        Check.bad("align @a 5;", 2);
        Check.bad("align 1 @- 5;", 2);
        Check.due("streams of a text of aligns", 0, Check.build(new WatermarkJoin(), "align 0 0;"));
    }

    private static void many() {
        String twelve = Check.sources(12);
        Check.good(twelve);
        Check.bad(twelve + "@m=source 1 marks;", 6);
        Check.bad(twelve + "@m#", 6);
        Check.bad(twelve + "@a=", 3);
        Check.bad(twelve + "@=", 2);
        Check.good(twelve + "align 0 0;align 1 1;align 2 2;align 3 3;");
        String six = Check.sources(6);
        String joins = "p=join a b from 0 to 1;q=join c d from 0 to 1;r=join e f from 0 to 1;";
        Check.good(six + joins);
        Check.bad(six + joins + "s=@join p q from 0 to 1;", 6);
        String windows = "p=window a size 1 step 1;q=window b size 1 step 1;r=window c size 1 step 1;";
        Check.good(six + windows);
        Check.bad(six + windows + "s=@window d size 1 step 1;", 6);
        Check.good(six + windows + "s=join p q from 0 to 1;");
        // Twelve streams and four groups are the most that can stand: 16 statements, so that a 21st one never comes.
        Check.bad(twelve + "align 0 0;align 1 1;align 2 2;align 3 3;align @0 4;", 5);
    }

    private static void places() {
        WatermarkJoin x = new WatermarkJoin();
        Check.due("fault() before a build()", 0, x.fault());
        Check.due("build() of nothing", -10, x.build());
        Check.due("fault() of it", 2, x.fault());
        Check.due("build() of a good text", 2, Check.build(x, AB));
        Check.due("fault() of it", 0, x.fault());
        Check.due("build() with a fault", -10 - 19, Check.build(x, A + "b=c;"));
        Check.due("fault() of it", 2, x.fault());
        Check.due("the tape", 0, x.told(8));
        Check.due("streams stay", 2, x.told(0));
    }

    /** A text of 600 bytes, all of them read; the fault of a longer run of blanks is at its end. */
    private static void longest() {
        StringBuilder s = new StringBuilder("a=source 1 marks");
        while (s.length() < 599) {
            s.append(' ');
        }
        Check.good(s + ";");
        Check.bad(s + " @", 2);
    }

    public static void main(String[] args) {
        tokens();
        endings();
        sources();
        namesAndInputs();
        joins();
        windows();
        aligns();
        many();
        places();
        longest();
        Check.finish();
    }
}
