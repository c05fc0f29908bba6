/** Promises 11 to 13, and 15 as far as laws tell it: law, fault, force, what a stone needs, whether it is bound. */
final class LawEdges {
    /** A clause with five parts. */
    private static final String FIVE_PARTS = "needs 1+1 if x+y=1;";

    private LawEdges() {
    }

    static void run(Edges e) {
        laws(e);
        fault(e);
        force(e);
        tokens(e);
        grammar(e);
        limits(e);
        asked(e);
        broken(e);
        clauses(e);
    }

    private static String chained(String first, String more, int many) {
        return first + more.repeat(many);
    }

    private static String nested(String opening, String inner, String closing, int many) {
        return opening.repeat(many) + inner + closing.repeat(many);
    }

    private static void laws(Edges e) {
        e.on(11, "LAWS are TEXTS, 6 at most", "law{bound} = 0", "law{x} = -6", """
            law{needs 1} = 1
            law{needs 2} = 2
            law{needs 3} = 3
            law{needs 4} = 4
            count(3) = 5
            law{needs 5} = 5
            count(3) = 6 | status() = 0 | count(8) = 0
            law{needs 6} = -5
            status() = -5 | count(3) = 6 | count(8) = 1 | force(5) = -1 | force(6) = -2
            """);
        e.on(11, "The TAPE, which is empty then, becomes a LAW: its number.", """
            fed{bound} = 5
            count(3) = 0 | law() = 0 | count(4) = 0 | count(3) = 1 | count(10) = -1
            law() = -6 | count(3) = 1
            fed{needs 1} = 7
            law() = 1 | count(3) = 2 | status() = 0
            """);
        String fifty = chained("needs 0", "+0", 48) + "+";
        e.on(11, "The TAPE, which is empty then, becomes a LAW: its number.", "stone(0, 0, 1, 1, 1) = 0",
            "law{" + fifty + "2} = 0", "law{" + fifty + "3} = 1", "law{" + fifty + "4} = 2", "law{" + fifty + "6} = 3",
            "law{" + fifty + "7} = 4", "law{" + fifty + "8} = 5", """
            force(0) = -1 | touches(0, 0) = 2 | force(1) = 0 | touches(0, 0) = 3 | force(2) = 1
            touches(0, 0) = 4 // each has its 50 parts
            force(3) = 2 | touches(0, 0) = 6 | force(4) = 3 | touches(0, 0) = 7 | force(5) = 4 | touches(0, 0) = 8
            """);
        e.on(11, "-5 (ahead of reading it; the TAPE is empty then, too)", sixLaws(), """
            fed{needs} = 5
            law() = -5 | count(4) = 0 | fault() = -1 | count(9) = 0
            fed{bound} = 5
            law() = -5 | count(4) = 0 | law() = -5 | count(8) = 3 | status() = -5 | count(9) = 0
            """);
        e.on(11, "-6 (blanks alone: FAULT at the end)", "law() = -6 | fault() = 0 | status() = -6 | count(9) = 1", """
            law{ } = -6
            fault() = 1 | count(4) = 0
            law{       } = -6
            fault() = 7 | count(3) = 0
            law{ bound } = 0
            fault() = -1 | status() = 0
            """);
        String blanks = " ".repeat(395);
        e.on(11, "on a TAPE of at most 400 bytes", "law{" + " ".repeat(400) + "} = -6", "fault() = 400",
            "law{bound" + blanks + "} = 0", "law{" + blanks + "bound} = 1", "law{bound" + " ".repeat(394) + ";} = -6",
            "fault() = 400", "law{bound" + " ".repeat(394) + "x} = -6", "fault() = 399",
            "law{needs " + "0".repeat(393) + "7} = 2", "force(2) = -1 | stone(0, 0, 1, 1, 1) = 0 | touches(0, 0) = 7");
    }

    private static String sixLaws() {
        StringBuilder run = new StringBuilder();
        for (int i = 0; i < 6; i++) {
            run.append("law{needs " + i + "} = " + i + "\n");
        }
        return run.toString();
    }

    private static void fault(Edges e) {
        e.on(12, "FAULT of the latest law() that read a TEXT: its place; NONE without.", """
            fault() = -1
            law{needs !} = -6
            fault() = 6 | fault() = 6
            law{bound} = 0
            fault() = -1
            law{!} = -6
            fault() = 0
            row() = -6 | feed(0, 0, 0, 0, 0) = 20 | end(0) = 0 | fault() = 0
            law() = -6 | fault() = 0
            """);
        e.on(12, "FAULT of the latest law() that read a TEXT", """
            law{bound !} = -6
            image(0) = 0
            """, sixLaws(), """
            fault() = -1
            law{!} = -5
            fault() = -1 // that one was not read
            back(0) = 0
            law{needs 1;x} = -6
            fault() = 8
            """);
        e.faults(12, "the first TOKEN that can't go on there (the end's: the TEXT's length)",
            "needs", 5, "needs ", 6, "needs   ", 8, "bound;", 6, "bound ;  ", 9, "bound if", 8, "bound if x", 10,
            "bound if x=", 11, "bound if (x=1", 13, "needs [1", 8, "needs 1+", 8, "  x", 2, "bound x", 6,
            "bound  x y", 7, "needs 1001 !", 6, "bound if x=1 or", 15, "bound if not", 12);
    }

    private static void force(Edges e) {
        e.on(13, "A LAW is in FORCE (NONE: none): which was. -2.", """
            force(0) = -2 | status() = -2 | force(-1) = -1 | status() = 0 | force(-2) = -2
            law{needs 7} = 0
            law{needs 8} = 1
            stone(3, 3, 1, 1, 1) = 0 | touches(0, 0) = 5 | force(0) = -1 | touches(0, 0) = 7 | force(1) = 0
            touches(0, 0) = 8 | force(2) = -2 | status() = -2 | touches(0, 0) = 8 | count(10) = 1 | force(1) = 1
            force(-2) = -2 | force(MIN) = -2 | force(MAX) = -2 | force(5) = -2 | force(6) = -2
            count(10) = 1 | force(-1) = 1 | count(10) = -1 | touches(0, 0) = 5 | force(-1) = -1 | count(6) = 8
            """);
        e.on(13, "A LAW is in FORCE (NONE: none): which was. -2.", sixLaws(),
            "force(5) = -1 | force(6) = -2 | force(0) = 5 | force(-1) = 0");
        e.on(13, "one is in FORCE (NONE at first: no CLAUSE)", """
            stone(3, 3, 1, 1, 1) = 0 | count(10) = -1 | touches(0, 0) = 5 | touches(0, 2) = 0
            law{needs 1;bound} = 0
            count(10) = -1 | touches(0, 0) = 5 | touches(0, 2) = 0 // not by itself
            force(0) = -1 | touches(0, 0) = 1 | touches(0, 2) = 1
            """);
    }

    private static void tokens(Edges e) {
        String letters = "longest rows of letters a .. z";
        e.faults(11, letters,
            "needs x`", 7, "needs x{", 7, "needs xa", 6, "needs xz", 6, "needs X", 6, "Needs x", 0, "bounD", 0,
            "boundif x=1", 0, "bound ifx=1", 6, "bound if notx=1", 9, "bound if x=1orx=2", 12, "bo und", 0, "needsx", 0,
            "need s", 0, "needs x y", 8, "needs x%e1", 7, "needs x%ff", 7);
        e.texts(11, letters,
            "needs x", "bound if x=1or x=2", "bound if not x=1", "bound if not[x]=1");
        e.faults(11, "of digits",
            "needs 1 2", 8, "needs 1:", 7, "needs 1x", 7, "needs x1", 7, "needs 1.1", 7, "needs 10000", 6,
            "needs 1%b9", 7);
        e.texts(11, "of digits",
            "needs 0", "needs 9", "needs 1/2", "needs 012", "needs5", "needs 7if x=1");
        e.needs("of digits",
            "needs 12", 12, "needs 09", 9, "needs 9", 9, "needs 0", 0, "needs 10", 10);
        e.faults(11, "single other bytes",
            "bound if x<=1", 11, "bound if x==1", 11, "bound;;bound", 6, "bound%00", 5, "%ffbound", 0,
            "bound if x<>1", 11, "needs 1++1", 8, "needs --1", 6);
        e.texts(11, "single other bytes",
            "bound if[x]<[1]", "bound if((x=1)or(x=2))", "needs[[1]]", "bound;bound");
        e.faults(11, "any blanks (32) between",
            "bound%09", 5, "bound%0a", 5, "%1fbound", 0, "!bound", 0, "bound%a0", 5, "bound%00;bound", 5, "1 000", 0);
        e.texts(11, "any blanks (32) between",
            "bound", " bound", "bound ", "   bound   ;   needs   1   ", "needs1", "needs 1+2*3", "needs  1  +  2  *  3",
            "bound if x  <  1  and  not  (  y  >  2  )");
    }

    private static void grammar(Edges e) {
        e.faults(11, "CLAUSE {\";\" CLAUSE}",
            ";", 0, "bound;", 6, ";bound", 0, "bound bound", 6, "bound,bound", 5, "needs 1 needs 2", 8, "bound;x", 6,
            "bound if x=1;if", 13);
        e.texts(11, "CLAUSE {\";\" CLAUSE}",
            "bound", "needs 1", "bound;needs 1", "bound if x=1;needs 1 if y=1;bound");
        e.faults(11, "(\"needs\" SUM | \"bound\") [\"if\" TEST]",
            "if x=1", 0, "needs if x=1", 6, "needs bound", 6, "bound 1", 6, "bound if", 8, "bound x=1", 6,
            "bound if if x=1", 9, "bound if x=1 if y=1", 13, "needs 1=1", 7, "needs (1)", 6, "needs not 1", 6, "1", 0,
            "needs 1 and 2", 8, "needs 1 or 2", 8);
        e.faults(11, "BOTH {\"or\" BOTH}",
            "bound if or", 9, "bound if x=1 or", 15, "bound if x=1 or or x=1", 16, "bound if x=1 x=1", 13,
            "bound if x=1 or and", 16);
        e.faults(11, "PLAIN {\"and\" PLAIN}",
            "bound if and", 9, "bound if x=1 and", 16, "bound if x=1 and ;", 17, "bound if x=1 and 1", 18,
            "bound if x and y", 11);
        e.faults(11, "\"not\" PLAIN | \"(\" TEST \")\"",
            "bound if not", 12, "bound if not and", 13, "bound if x=not 1", 11, "bound if x=1 not", 13,
            "bound if ()", 10, "bound if (x)", 11, "bound if (x)=1", 11, "bound if (x=1", 13, "bound if (x=1]", 13,
            "bound if x=1)", 12, "bound if (x=1))", 14, "bound if (x=1)=1", 14, "bound if (x=1)+1", 14,
            "bound if (x=1;bound", 13, "bound if (x=1)(y=1)", 14, "bound if x=(1)", 11, "bound if [(x=1)]", 10);
        e.texts(11, "\"not\" PLAIN | \"(\" TEST \")\"",
            "bound if (x=1)", "bound if not (x=1)", "bound if (not x=1)", "bound if not not not x=1",
            "bound if (x=1 or y=1) and (x=2)", "bound if ([x]=1)", "bound if not(not(x=1))");
        e.faults(11, "SUM (\"<\" | \">\" | \"=\") SUM",
            "bound if x", 10, "bound if x=", 11, "bound if =1", 9, "bound if x!1", 10, "bound if x=1=1", 12,
            "bound if x<y<1", 12, "bound if x;bound", 10, "bound if [x=1]", 11, "bound if [x]", 12);
        e.faults(11, "TERM {(\"+\" | \"-\") TERM}",
            "needs +1", 6, "needs -1", 6, "needs 1+", 8, "needs 1-", 8, "needs 1+-1", 8, "needs 1+;", 8,
            "needs 1+if", 8);
        e.faults(11, "PART {(\"*\" | \"/\") PART}",
            "needs *1", 6, "needs 1*", 8, "needs 1/", 8, "needs 1*/1", 8, "needs 1%25 1", 7);
        e.faults(11, "\"[\" SUM \"]\"",
            "needs []", 7, "needs [1", 8, "needs [1)", 8, "needs 1]", 7, "needs [1]]", 9, "needs [1][1]", 9,
            "needs [1 1]", 9, "needs ]", 6, "needs [;]", 7, "needs [1]1", 9, "needs 1[1]", 7, "needs x[1]", 7);
        e.faults(11, "\"stone\" | \"x\" | \"y\" | \"wide\" | \"tall\" | \"weight\" | \"farm\" | \"frost\"",
            "needs stones", 6, "needs ston", 6, "needs z", 6, "needs w", 6, "needs wid", 6, "needs talls", 6,
            "needs weigh", 6, "needs far", 6, "needs fros", 6, "needs frosty", 6, "needs need", 6, "needs not", 6,
            "needs ground", 6, "needs bound", 6);
    }

    private static void limits(Edges e) {
        String clauses = "12 at most (FAULT at the 13th's first TOKEN)";
        e.texts(11, clauses,
            chained("bound", ";bound", 10), chained("bound", ";bound", 11),
            chained("needs 1 if x=1", ";needs 1 if x=1", 11));
        e.faults(11, clauses,
            chained("bound", ";bound", 12), 72, chained("bound", ";bound", 11) + ";", 72,
            chained("bound", ";bound", 11) + ";  ", 74, chained("bound", ";bound", 11) + ";  x", 74,
            chained("bound", ";bound", 11) + " ; needs 1", 74, chained("bound", ";bound", 11) + ";;", 72,
            chained("bound", ";bound", 11) + "x", 66, chained("bound", ";bound", 10) + ";x", 66);
        e.needs(clauses,
            chained("needs 0;", "needs 0;", 10) + "needs 7", 7);
        String numbers = "NUMBER (to 1,000)";
        e.texts(11, numbers,
            "needs 999", "needs 1000", "needs 01000", "needs 0001000", "needs 0000000000999");
        e.faults(11, numbers,
            "needs 1001", 6, "needs 01001", 6, "needs 10000", 6, "needs 2147483648", 6, "needs 4294967296", 6,
            "needs 4294967297", 6, "needs 18446744073709551616", 6, "needs 18446744073709551617", 6, "needs 1+1001", 8,
            "bound if 1=1001", 11, "needs " + "9".repeat(394), 6, "needs 1" + "0".repeat(393), 6);
        e.needs(numbers,
            "needs 1000/100", 10, "needs 999/100", 9, "needs 1000-999", 1, "needs " + "0".repeat(393) + "7", 7);
        String parts = "50 PARTS that are NUMBERS and words (FAULT at the 51st)";
        e.texts(11, parts,
            chained("needs 0", "+0", 48), chained("needs 0", "+0", 49), chained("needs x", "+x", 49),
            chained("needs x", "+0+x", 24) + "+1", chained("needs [1]", "+[1]", 49), FIVE_PARTS.repeat(10) + "bound");
        e.faults(11, parts,
            chained("needs 0", "+0", 50), 106, chained("needs x", "+x", 50), 106, chained("needs x", "+0+x", 25), 106,
            chained("needs [1]", "+[1]", 50), 207, chained("needs 0", "+0", 49) + "+", 106,
            chained("needs 0", "+0", 49) + "+[[x]]", 108, FIVE_PARTS.repeat(10) + "needs 1", 196,
            FIVE_PARTS.repeat(10) + "bound if stone=1", 199, chained("needs 0", "+0", 48) + " if x=1", 109);
        e.needs(parts,
            chained("needs 0", "+0", 48) + "+7", 7);
        brackets(e);
    }

    private static void brackets(Edges e) {
        String brackets = "8 brackets of both kinds within one another (FAULT at the 9th) at most";
        e.texts(11, brackets,
            "needs " + nested("[", "1", "]", 7), "needs " + nested("[", "1", "]", 8),
            "bound if " + nested("(", "1=1", ")", 7), "bound if " + nested("(", "1=1", ")", 8),
            "bound if " + nested("(", "[1]=1", ")", 7),
            "bound if " + nested("(", nested("[", "1", "]", 7) + "=1", ")", 1),
            "bound if " + nested("(", "1=" + nested("[", "1", "]", 4), ")", 4),
            "needs " + nested("[", "1", "]", 8) + "+" + nested("[", "1", "]", 8) + ";needs " + nested("[", "1", "]", 8),
            "bound if " + nested("(", "1=1", ")", 8) + " and " + nested("(", "1=1", ")", 8),
            "needs " + nested("[", "1", "]", 8) + " if " + nested("(", "1=1", ")", 8),
            "bound if (" + nested("(", "[1]=1", ")", 6) + " or [1]=1)");
        e.faults(11, brackets,
            "needs " + nested("[", "1", "]", 9), 14, "bound if " + nested("(", "1=1", ")", 9), 17,
            "bound if " + nested("(", "[1]=1", ")", 8), 17, "bound if " + nested("(", "[[1]]=1", ")", 7), 17,
            "bound if " + nested("(", "1=[1]", ")", 8), 19, "bound if (" + nested("[", "1", "]", 8) + "=1)", 17,
            "needs " + "[".repeat(394), 14, "bound if" + "(".repeat(392), 16,
            "bound if " + nested("(", "1=1", ")", 8) + " and " + nested("(", "1=1", ")", 9), 41);
        e.needs(brackets,
            "needs " + nested("[", "7", "]", 8), 7, "needs 7 if " + nested("(", "x=3", ")", 8), 7,
            "needs [1+[1+[1+[1+[1+[1+[1+[1]]]]]]]]", 8);
    }

    private static void asked(Edges e) {
        String spare = "a SPARE one: stone is 14 and its number, FARM and FROST 0";
        int[][] told = {{13, -1, -1, 0}, {14, 1, 1, 1}, {15, 1, 2, 1}, {21, 1, 128, 1}, {22, -1, -1, 0},
            {0, -1, -1, 0}};
        for (int[] t : told) {
            e.on(28, spare, StoneEdges.someSpares(8), "law{bound if stone=" + t[0] + " and farm=0 and frost=0} = 0",
                "force(0) = -1 | mend(0) = " + t[1] + " | mend(1) = " + t[2] + " | mend(2) = " + t[3]);
        }
        e.on(28, spare, StoneEdges.someSpares(8), "law{bound if farm>0 or frost>0 or farm<0 or frost<0} = 0",
            "force(0) = -1 | mend(2) = 0");
        e.on(15, "It is asked of a STONE", StoneEdges.some(13), """
            stone(6, 2, 6, 6, 99) = 13 | put(13, 1, 3) = 0 | put(13, 2, 100) = 0
            law{needs stone} = 0
            force(0) = -1 | touches(0, 0) = 0 | touches(11, 0) = 11 | touches(12, 0) = 12 | touches(13, 0) = 12
            law{bound if stone=13 and x=6 and y=2 and wide=6 and tall=6 and weight=99 and farm=3 and frost=100} = 1
            force(1) = 0 | touches(13, 2) = 1 | touches(12, 2) = 0 | put(13, 2, 99) = 100 | touches(13, 2) = 0
            """);
        e.on(15, "It is asked of a STONE", """
            stone(11, 7, 1, 1, 1) = 0
            law{bound if x=11 and y=7 and wide=1 and tall=1 and weight=1 and farm=0 and frost=0 and stone=0} = 0
            force(0) = -1 | touches(0, 2) = 1 | put(0, 0, 2) = 1 | touches(0, 2) = 0 | put(0, 0, 1) = 2
            touches(0, 2) = 1 | put(0, 1, 1) = 0 | touches(0, 2) = 0 // as it is now
            """);
    }

    private static void broken(Edges e) {
        String thousands = "1000*1000*1000";
        e.needs("Beyond 1,000,000,000 either way", "needs 1000*1000*1000-1", 12, "needs 1000*1000*1000", 12,
            "needs 1000*1000*1000+1", 5, "needs 0-1000*1000*1000+1", 0, "needs 0-1000*1000*1000", 0,
            "needs 0-1000*1000*1000-1", 5, "needs 1000*1000*1000*1", 12, "needs 1000*1000*1000*2", 5,
            "needs [0-1000]*1000*1000", 0, "needs [0-1000]*1000*1000*2", 5, "needs 1000*1000*1000/1", 12,
            "needs 1+1000*1000*1000-1000*1000*1000", 5, "needs 1-1000*1000*1000+1000*1000*1000", 1,
            "needs 0-1-1000*1000*1000+1000*1000*1000", 5, "needs 7+0*[1000*1000*1000+1]", 5,
            "needs 7 if 1000*1000*1000=1000*1000*1000", 7, "needs 7 if 1000*1000*1000+1>0", 5,
            "needs 7 if not 1000*1000*1000+1>0", 5, "needs 7 if 0-1000*1000*1000<0", 7,
            "needs 7 if 0-1000*1000*1000-1<0", 5, "needs 7 if 0<1000*1000*1000+1", 5,
            // These would come round to 0 in 32 and in 64 bits.
            "needs " + chained("1000", "*1000", 10), 5, "needs " + chained("1000", "*1000", 21), 5,
            "needs " + thousands + "*[0-" + thousands + "]", 5, "needs " + thousands + "-[0-" + thousands + "]", 5);
        e.needs("or divided by 0",
            "needs 1/1", 1, "needs 1/0", 5, "needs 0/0", 5, "needs 0/1", 0, "needs 7 if 1/[x-3]=0", 5,
            "needs 7 if 1/[x-2]=1", 7, "needs 7 if 1/[x-4]=0-1", 7, "needs 7 if 1=1/[x-3]", 5, "needs 7+0/[1-1]", 5,
            "needs 3/[1/2]", 5);
        e.needs("/ is cut towards 0",
            "needs 6/2", 3, "needs 7/2", 3, "needs 8/2", 4, "needs 9+[0-6]/2", 6, "needs 9+[0-7]/2", 6,
            "needs 9+[0-8]/2", 5, "needs 9+7/[0-2]", 6, "needs 9+[0-7]/[0-2]", 12, "needs 9+[0-1]/2", 9,
            "needs 9+1/[0-2]", 9, "needs 9+[0-2]/2", 8, "needs 1/2", 0, "needs 1/1000", 0);
        e.needs("(\"or\", \"and\" ask what stands behind only if it can still matter)",
            "needs 7 if 1=1 or 1/0=1", 7, "needs 7 if 1=2 or 1/0=1", 5, "needs 7 if 1/0=1 or 1=1", 5,
            "needs 7 if not (1=2 and 1/0=1)", 7, "needs 7 if not (1=1 and 1/0=1)", 5,
            "needs 7 if not (1/0=1 and 1=2)", 5, "needs 7 if 1=2 and 1/0=1 or 1=1", 7,
            "needs 7 if 1=1 and 1/0=1 or 1=1", 5, "needs 7 if 1=1 or 1=1 and 1/0=1", 7,
            "needs 7 if 1=2 or 1=1 or 1/0=1", 7, "needs 7 if 1=2 or 1=2 or 1/0=1", 5,
            "needs 7 if not (1=1 and 1=2 and 1/0=1)", 7, "needs 7 if not (1=1 and 1=1 and 1/0=1)", 5,
            "needs 7 if (1=1 or 1/0=1) and 1=1", 7, "needs 7 if (1=1 or 1/0=1) and 1/0=1", 5,
            "needs 7 if not (1=2 and 1/0=1) and 1=1", 7, "needs 7 if (1=2 and 1/0=1) or 1=1", 7,
            "needs 7 if 1=1 or 1=2 and 1=2", 7, "needs 7 if (1=1 or 1=2) and 1=2", 5, "needs 7 if not 1=1 or 1=1", 7,
            "needs 7 if not (1=1 or 1=1)", 5);
        e.needs("SUM (\"<\" | \">\" | \"=\") SUM",
            "needs 7 if 2<3", 7, "needs 7 if 3<3", 5, "needs 7 if 4<3", 5, "needs 7 if 2>3", 5, "needs 7 if 3>3", 5,
            "needs 7 if 4>3", 7, "needs 7 if 2=3", 5, "needs 7 if 3=3", 7, "needs 7 if 4=3", 5);
        e.needs("TERM {(\"+\" | \"-\") TERM}",
            "needs 9-3-2", 4, "needs 9-3+2", 8, "needs 9-[3+2]", 4, "needs 2+3*3", 11, "needs [2+1]*3", 9,
            "needs 11-2*3", 5, "needs 12-2*3", 6, "needs 100/7/2", 7, "needs 100/[20/2]", 10, "needs 7/2*2", 6,
            "needs 7*2/4", 3);
    }

    private static void clauses(Edges e) {
        e.needs("A CLAUSE HOLDS, if its \"if\" (if it has one) is so, and neither that nor its SUM is BROKEN",
            "needs 7", 7, "needs 7 if 1=1", 7, "needs 7 if 1=2", 5, "needs 7 if 1/0=1", 5, "needs 7 if not 1/0=1", 5,
            "needs 1/0 if 1=1", 5, "needs 1/0 if 1=2", 5, "needs 3;needs 1/0", 3, "needs 3;needs 7 if 1/0=0", 3,
            "needs 3;needs 7 if 1=2", 3, "needs 1/0;needs 3", 3);
        e.on(15, "neither that nor its SUM is BROKEN", StoneEdges.fourteen(), """
            law{needs 1+[1+[1+1/0]];bound if 1+[1+[1+1/0]]=1} = 0
            law{needs 7;bound if 1=1 and stone=13} = 1
            force(0) = -1 | touches(0, 0) = 5 | terms(0, 6) = 5 | touches(0, 0) = 6 | terms(0, 7) = 6
            touches(13, 0) = 7 | terms(0, 5) = 7 | touches(0, 0) = 5 | touches(13, 2) = 0 | force(1) = 0
            touches(0, 0) = 7 | touches(13, 0) = 7 | touches(13, 2) = 1 | touches(12, 2) = 0
            """);
        e.needs("A STONE NEEDS what the last \"needs\" that HOLDS tells",
            "needs 1;needs 2", 2, "needs 2;needs 1", 1, "needs 1;needs 2 if x=9", 1,
            "needs 1 if x=3;needs 2 if x=3;needs 3 if x=9", 2, "needs 4;bound", 4, "bound;needs 4", 4);
        e.needs("0 .. 12 (else the nearest), NEED without.",
            "needs 0-1000", 0, "needs 0-2", 0, "needs 0-1", 0, "needs 0", 0, "needs 1", 1, "needs 11", 11,
            "needs 12", 12, "needs 13", 12, "needs 14", 12, "needs 1000", 12, "bound", 5, "needs 7 if x=9", 5);
        e.on(15, "NEED without.", """
            stone(0, 0, 1, 1, 1) = 0
            law{needs 9 if weight>10} = 0
            force(0) = -1 | touches(0, 0) = 5 | terms(0, 0) = 5 | touches(0, 0) = 0 | terms(0, 12) = 0
            touches(0, 0) = 12 | put(0, 0, 10) = 1 | touches(0, 0) = 12 | put(0, 0, 11) = 10 | touches(0, 0) = 9
            """);
        e.on(15, "It is BOUND, if \"bound\" HOLDS: it never falls.", """
            stone(5, 5, 1, 1, 1) = 0 | stone(7, 5, 1, 1, 2) = 1 | touches(0, 2) = 0 | unlawful() = 0
            law{needs 12;bound if stone=0;bound if weight/farm=2;bound if stone=1 and 1=2} = 0
            force(0) = -1 | touches(0, 2) = 1 | touches(1, 2) = 0 | touches(0, 0) = 12 | touches(0, 1) = 0
            unlawful() = 1 | falls(0, 2) = 1 | round(0, 0) = -1 | round(0, 1) = 1 | falls(1, 2) = 0
            round(1, 0) = 0 // it can be taken
            put(1, 1, 1) = 0 | touches(1, 2) = 1 | unlawful() = -1 | put(1, 1, 2) = 1 | touches(1, 2) = 0
            take(0) = 1 | there() = 1 | touches(0, 2) = 1 | take(1) = 1 | there() = 0 | touches(0, 2) = 1
            """);
    }
}
