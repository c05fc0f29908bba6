/** Promises 11 to 13, and 15 as far as laws tell it: law, fault, force, what a stone needs, whether it is bound. */
public final class LawTest {
    private static final Check CHECK = new Check("LawTest");
    private static final int NONE = FiveTouch.NONE;

    public static void main(String[] args) {
        testGoodTexts();
        testFaults();
        testLimits();
        testLawRoom();
        testFaultIsOfTheLatestRead();
        testForce();
        testWords();
        testSums();
        testBroken();
        testTests();
        testClauses();
        testBound();
        CHECK.close();
    }

    private static void due(String what, long got, long want) {
        CHECK.due(what, got, want);
    }

    private static void testGoodTexts() {
        String[] texts = {
            "bound", "needs 5", "needs5", "  needs   5  ", "bound;bound", "needs 1;needs 2 ; bound if x=1",
            "needs [1]", "needs [[x]+1]*2", "bound if (x=1)", "bound if ((x=1)or y<2)and not(tall>1)",
            "bound if not not x=1", "needs stone+x+y+wide+tall+weight+farm+frost", "needs 1000", "needs 0001000",
            "needs 000000000000000000000000000000000000007", "needs 1-2-3*4/5", "bound if 1+1=2*1 or[3]>2"};
        for (String text : texts) {
            FiveTouch x = new FiveTouch();
            due("law '" + text + "'", Check.law(x, text), 0);
            due("fault of '" + text + "'", x.fault(), NONE);
            due("laws", x.count(3), 1);
            due("tape", x.count(4), 0);
            due("status", x.status(), 0);
        }
    }

    private static void fault(String text, int place) {
        FiveTouch x = new FiveTouch();
        due("law '" + text + "'", Check.law(x, text), -6);
        due("fault of '" + text + "'", x.fault(), place);
        due("no law came", x.count(3), 0);
        due("tape", x.count(4), 0);
        due("status", x.status(), -6);
        due("refused by -6", x.count(9), 1);
    }

    private static void testFaults() {
        fault("", 0);
        fault("   ", 3);
        fault("needs", 5);
        fault("needs  ", 7);
        fault(";", 0);
        fault("bound;", 6);
        fault("bound; ", 7);
        fault("bound;;bound", 6);
        fault("bounds", 0);
        fault("needsx", 0);
        fault("Bound", 0);
        fault("needs if x=1", 6);
        fault("needs 5 x", 8);
        fault("needs 5 5", 8);
        fault("needs 5x", 7);
        fault("needs -5", 6);
        fault("needs +", 6);
        fault("needs 1+", 8);
        fault("needs 1+*2", 8);
        fault("needs (1)", 6);
        fault("needs [1", 8);
        fault("needs [1)", 8);
        fault("needs []", 7);
        fault("needs 1]", 7);
        fault("needs 1=1", 7);
        fault("needs 1001", 6);
        fault("needs 99999999999999999999", 6);
        fault("needs 4294967297", 6);
        fault("needs weigh", 6);
        fault("needs xz", 6);
        fault("needs xa", 6);
        fault("needs x`", 7);
        fault("needs x{", 7);
        fault("needs 1:", 7);
        fault("needs 1.5", 7);
        fault("needs bound", 6);
        fault("bound 5", 6);
        fault("bound if", 8);
        fault("bound if x", 10);
        fault("bound if x=", 11);
        fault("bound if x=1=1", 12);
        fault("bound if x<>1", 11);
        fault("bound if (x=1", 13);
        fault("bound if x=1)", 12);
        fault("bound if (x)=1", 11);
        fault("bound if (x=1]", 13);
        fault("bound if [x=1]", 11);
        fault("bound if [x]", 12);
        fault("bound if not", 12);
        fault("bound if not and", 13);
        fault("bound if x=1 or", 15);
        fault("bound if x=1 and or x=1", 17);
        fault("bound if x=1 not x=1", 13);
        fault("bound if x=1 if x=1", 13);
        fault("bound if x=1 (y=1)", 13);
        fault("bound if (x=1)(y=1)", 14);
        fault("bound if (x=1)+1", 14);
        fault("bound if (x=1)=1", 14);
        fault("bound if x=1,y=1", 12);
        fault("bound\u0000", 5);
        fault("bound\t", 5);
        fault("bound\u00e9", 5);
        fault("bound if x=1;x", 13);
    }

    private static void testLimits() {
        FiveTouch x = new FiveTouch();
        due("12 clauses", Check.law(x, "bound;".repeat(11) + "bound"), 0);
        fault("bound;".repeat(12) + "bound", 72);
        fault("bound;".repeat(12) + "  bound", 74);
        fault("bound;".repeat(12) + " ", 73);
        fault("bound;".repeat(12) + "x", 72);

        due("50 parts", Check.law(x, "needs 1" + "+x".repeat(49)), 1);
        fault("needs 1" + "+x".repeat(50), 106);
        fault("needs 1" + "+x".repeat(49) + "+", 106);
        due("50 parts in two clauses", Check.law(x, "needs 1" + "+x".repeat(29) + ";needs[y]" + "+1".repeat(19)), 2);
        fault("needs 1" + "+x".repeat(29) + ";needs[y]" + "+1".repeat(19) + " if x=1", 116);

        due("8 square", Check.law(x, "needs " + "[".repeat(8) + "1" + "]".repeat(8)), 3);
        fault("needs " + "[".repeat(9) + "1" + "]".repeat(9), 14);
        due("8 of both", Check.law(x, "bound if((((([[[1]]]=1)))))"), 4);
        fault("bound if((((([[[[1]]]]=1)))))", 16);
        fault("bound if" + "(".repeat(9) + "1=1" + ")".repeat(9), 16);
        String eight = "[".repeat(8) + "1" + "]".repeat(8);
        due("8, again and again", Check.law(x, "needs " + (eight + "+").repeat(5) + "1"), 5);

        FiveTouch y = new FiveTouch();
        due("a hundred times not", Check.law(y, "bound if " + "not ".repeat(96) + "x=0"), 0);
        y.stone(0, 0, 1, 1, 1);
        y.force(0);
        due("an even number of them", y.touches(0, 2), 1);
        due("an odd number", Check.forced(y, "bound if " + "not ".repeat(95) + "x=0"), 1);
        due("an odd number of them", y.touches(0, 2), 0);
        due("400 bytes", Check.law(y, "bound" + " ".repeat(395)), 2);
    }

    private static void testLawRoom() {
        FiveTouch x = new FiveTouch();
        for (int i = 0; i < 6; i++) {
            due("law " + i, Check.law(x, "needs " + i), i);
        }
        due("a fault ahead of room", x.fault(), NONE);
        due("the seventh", Check.law(x, "needs"), -5);
        due("is not read", x.fault(), NONE);
        due("the tape is empty", x.count(4), 0);
        due("status", x.status(), -5);
        due("an empty one", x.law(), -5);
        due("refused by -5", x.count(8), 2);
        due("laws", x.count(3), 6);
        x.stone(0, 0, 1, 1, 1);
        x.terms(0, 9);
        for (int i = 0; i < 6; i++) {
            due("in force", x.force(i), i - 1);
            due("what it tells", x.touches(0, 0), i);
        }
    }

    private static void testFaultIsOfTheLatestRead() {
        FiveTouch x = new FiveTouch();
        due("bad", Check.law(x, "needs !"), -6);
        due("fault", x.fault(), 6);
        due("good", Check.law(x, "bound"), 0);
        due("no fault", x.fault(), NONE);
        due("bad", Check.law(x, "bound!"), -6);
        for (int i = 1; i < 6; i++) {
            Check.feed(x, "bound");
            due("good", x.law(), i);
        }
        due("an empty tape has no room now", x.law(), -5);
        due("the latest that was read had none", x.fault(), NONE);
    }

    private static void testForce() {
        FiveTouch x = new FiveTouch();
        x.stone(3, 3, 1, 1, 1);
        due("none yet", x.force(0), -2);
        due("status", x.status(), -2);
        due("none, of none", x.force(NONE), NONE);
        due("status", x.status(), 0);
        due("a law", Check.law(x, "needs 7"), 0);
        due("another", Check.law(x, "needs 8"), 1);
        due("not in force by itself", x.count(10), NONE);
        due("need", x.touches(0, 0), 5);
        due("in force", x.force(1), NONE);
        due("need", x.touches(0, 0), 8);
        due("the other", x.force(0), 1);
        due("need", x.touches(0, 0), 7);
        due("told", x.count(10), 0);
        due("no such", x.force(2), -2);
        due("none below NONE", x.force(-2), -2);
        due("far above", x.force(Integer.MAX_VALUE), -2);
        due("as it was", x.count(10), 0);
        due("refused by -2", x.count(6), 4);
        due("none", x.force(NONE), 0);
        due("need", x.touches(0, 0), 5);
    }

    /** What a stone at 3, 2 that is 4 wide, 5 tall, 6 heavy, of farm 1, with frost 9, needs by a text. */
    private static int need(String text) {
        FiveTouch x = new FiveTouch();
        x.stone(0, 0, 1, 1, 1);
        x.stone(3, 2, 4, 5, 6);
        x.put(1, 1, 1);
        x.put(1, 2, 9);
        due("law '" + text + "'", Check.forced(x, text), 0);
        return x.touches(1, 0);
    }

    private static void needs(String text, int want) {
        due("what '" + text + "' tells", need(text), want);
    }

    private static void testWords() {
        needs("needs stone", 1);
        needs("needs x", 3);
        needs("needs y", 2);
        needs("needs wide", 4);
        needs("needs tall", 5);
        needs("needs weight", 6);
        needs("needs farm*7", 7);
        needs("needs frost", 9);
        needs("needs 0", 0);
        needs("needs 12", 12);
        needs("needs 13", 12);
        needs("needs 0-1", 0);
        needs("needs 0-1000*1000*1000", 0);
        needs("needs 1000*1000*1000", 12);
    }

    private static void testSums() {
        needs("needs 9-3-2", 4);
        needs("needs 9-[3-2]", 8);
        needs("needs 2+2*3", 8);
        needs("needs [2+2]*2", 8);
        needs("needs 100/7/2", 7);
        needs("needs 100/[20/2]", 10);
        needs("needs 7/2*2", 6);
        needs("needs 5+[0-7]/2", 2);
        needs("needs 5+7/[0-2]", 2);
        needs("needs 0/5+1", 1);
        needs("needs 2*3+4*1", 10);
        needs("needs 12-2*3", 6);
        needs("needs [0-1]*[0-8]", 8);
    }

    private static void testBroken() {
        needs("needs 1/0", 5);
        needs("needs 0/0", 5);
        needs("needs 1/[x-3]", 5);
        needs("needs 3;needs 1/0", 3);
        needs("needs 1000*1000*1000+1", 5);
        needs("needs 0-1000*1000*1000-1", 5);
        needs("needs [1000*1000*1000+1]/1000", 5);
        needs("needs 1000*1000*1000*1000*1000*1000*1000*1000*1000*0", 5);
        needs("needs 1000*1000*1000-1+1", 12);
        needs("needs 7 if 1/0=1", 5);
        needs("needs 7 if not 1/0=1", 5);
        needs("needs 7 if 1=1/0", 5);
        needs("needs 7 if 1=1 or 1/0=1", 7);
        needs("needs 7 if 1/0=1 or 1=1", 5);
        needs("needs 7 if 1=2 or 1/0=1", 5);
        needs("needs 7 if not (1=2 and 1/0=1)", 7);
        needs("needs 7 if not (1=1 and 1/0=1)", 5);
        needs("needs 7 if not (1/0=1 and 1=2)", 5);
        needs("needs 7 if 1=2 and 1/0=1 or 1=1", 7);
        needs("needs 7 if 1=1 or 1=1 and 1/0=1", 7);
        needs("needs 7 if (1=1 or 1/0=1) and 2=2", 7);
        needs("needs 7 if 1=2 or 1=1 or 1/0=1", 7);
        needs("needs 7 if not (1=1 and 1=2 and 1/0=1)", 7);
    }

    private static void testTests() {
        needs("needs 7 if x<4", 7);
        needs("needs 7 if x<3", 5);
        needs("needs 7 if x>2", 7);
        needs("needs 7 if x>3", 5);
        needs("needs 7 if x=3", 7);
        needs("needs 7 if x=2", 5);
        needs("needs 7 if not x=2", 7);
        needs("needs 7 if not not x=2", 5);
        needs("needs 7 if x=2 or y=2", 7);
        needs("needs 7 if x=3 and y=3", 5);
        needs("needs 7 if x=3 or x=3 and y=3", 7);
        needs("needs 7 if (x=3 or x=3) and y=3", 5);
        needs("needs 7 if not x=2 and y=3", 5);
        needs("needs 7 if not (x=2 and y=3)", 7);
        needs("needs 7 if x=9 or x=8 or x=3", 7);
        needs("needs 7 if x=3 and y=2 and wide=4 and tall=5", 7);
        needs("needs 7 if x+y*2=wide+3", 7);
    }

    private static void testClauses() {
        needs("needs 1;needs 2", 2);
        needs("needs 1;needs 2 if x=0", 1);
        needs("needs 1 if x=3;needs 2 if x=0;needs 4 if 1/0=1", 1);
        needs("bound;needs 8", 8);
        needs("bound", 5);
        FiveTouch x = new FiveTouch();
        x.stone(0, 0, 1, 1, 1);
        Check.forced(x, "needs 9 if weight>10");
        x.terms(0, 3);
        due("need without", x.touches(0, 0), 3);
        x.put(0, 0, 11);
        due("need by the law", x.touches(0, 0), 9);
    }

    private static void testBound() {
        FiveTouch x = new FiveTouch();
        x.stone(5, 5, 1, 1, 1);
        x.stone(7, 5, 1, 1, 1);
        due("not without", x.touches(0, 2), 0);
        Check.forced(x, "needs 12;bound if stone=1;bound if frost/farm=1;needs 11");
        due("the first is not", x.touches(0, 2), 0);
        due("the other is", x.touches(1, 2), 1);
        due("it needs all the same", x.touches(1, 0), 11);
        due("the first does not stand", x.unlawful(), 0);
        due("one falls", x.take(0), 1);
        due("the bound one stays", x.there(), 2);
        due("and all stand", x.unlawful(), NONE);
        x.stand(3);
        x.put(0, 1, 2);
        x.put(0, 2, 2);
        due("bound by another clause", x.touches(0, 2), 1);
        due("while away, too", x.stand(0) == 3 ? x.touches(0, 2) : 9, 1);
    }
}
