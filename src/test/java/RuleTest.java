/** Promises 5 (rule) and 6 (fault); what a rule does is tested with the fair. */
public final class RuleTest {
    public static void main(String[] args) {
        rightOnes();
        firstWrongBytes();
        depth();
        longest();
        tooMany();
        theOneBefore();
        Checks.finish();
    }

    private static void right(String text, int lines) {
        RopeFerry ferry = new RopeFerry();
        Checks.due("rule '" + text + "'", Checks.rule(ferry, text), lines);
        Checks.due("LINES", ferry.count(9), lines);
        Checks.due("fault", ferry.fault(), RopeFerry.NONE);
        Checks.due("the tape is used up: end(1)", ferry.end(1), false);
    }

    private static void wrong(String text, int at) {
        RopeFerry ferry = new RopeFerry();
        Checks.tell(ferry, text);
        Checks.thrown("rule '" + text + "'", IllegalArgumentException.class, ferry::rule);
        Checks.due("fault of '" + text + "'", ferry.fault(), at);
        Checks.due("LINES", ferry.count(9), RopeFerry.NONE);
        Checks.due("the tape is used up: end(1)", ferry.end(1), false);
    }

    private static void rightOnes() {
        right("", 0);
        right("   ", 0);
        right("0", 1);
        right(" 999 ; 000 ", 2);
        right("5if weight<3", 1);
        right("5 if waited+weight+queue+minute+999>0+1", 1);
        right("5 if(weight<3)or(weight>7)and not(queue>1)", 1);
        right("1 if 1<2 or 2<1 and 3>1 or not 1>1;2", 2);
    }

    private static void firstWrongBytes() {
        wrong("if", 0);
        wrong("1000", 0);
        wrong("weight", 0);
        wrong("5 if", 4);
        wrong("5 if  ", 6);
        wrong("5 6", 2);
        wrong("5 iff 1<2", 2);
        wrong("5 weight<3", 2);
        wrong("5;", 2);
        wrong("5; ", 3);
        wrong(";5", 0);
        wrong("5;;5", 2);
        wrong("5 if weight", 11);
        wrong("5 if weight;6", 11);
        wrong("5 if weight<", 12);
        wrong("5 if weight<)", 12);
        wrong("5 if weight=3", 11);
        wrong("5 if weight<3<4", 13);
        wrong("5 if weight<3+", 14);
        wrong("5 if weight+<3", 12);
        wrong("5 if +weight<3", 5);
        wrong("5 if 2*weight<3", 6);
        wrong("5 if weight<1000", 12);
        wrong("5 if weights<3", 5);
        wrong("5 if goods<3", 5);
        wrong("5 if weight<3 weight<4", 14);
        wrong("5 if weight<3 or", 16);
        wrong("5 if weight<3 or and", 17);
        wrong("5 if weight<3 and;", 17);
        wrong("5 if weight<3 not weight<4", 14);
        wrong("5 if not", 8);
        wrong("5 if not;5", 8);
        wrong("5 if (weight<3", 14);
        wrong("5 if (weight<3;5", 14);
        wrong("5 if weight<3)", 13);
        wrong("5 if ((weight<3)", 16);
        wrong("5 if ()", 6);
        wrong("5 if (weight)<3", 12);
        wrong("5 if (1+2)<3", 9);
        wrong("5 if not (weight<3))", 19);
        wrong("5 if weight<3 if weight<4", 14);
    }

    private static void depth() {
        right("5 if ((((((weight<3))))))", 1);
        wrong("5 if (((((((weight<3)))))))", 11);
        right("5 if not not not not not not weight<3", 1);
        wrong("5 if not not not not not not not weight<3", 29);
        right("5 if not(not(not(weight<3)))", 1);
        wrong("5 if not(not(not(not weight<3)))", 17);
        wrong("5 if not(not(not((weight<3))))", 17);
        // One behind another is not within one another.
        right("5 if not 1<2 and not 1<2 and not 1<2 and not 1<2 and not 1<2 and not 1<2 and not 1<2",
                1);
        right("5 if (1<2)and(1<2)and(1<2)and(1<2)and(1<2)and(1<2)and(1<2)and((((((1<2))))))", 1);
    }

    private static void longest() {
        // 400 bytes, 395 things.
        StringBuilder text = new StringBuilder("1 if 1");
        while (text.length() < 398) {
            text.append("+1");
        }
        right(text + ">1", 1);
        wrong(text + ">+", 399);
        wrong(text + "+1", 400);
        wrong("(".repeat(400), 0);
        wrong("1 if " + "(".repeat(395), 11);
        wrong("1 if " + "not(".repeat(98), 17);
    }

    private static void tooMany() {
        right("1;2;3;4;5;6;7;8;9;10;11;12", 12);
        wrong("1;2;3;4;5;6;7;8;9;10;11;12;13", 27);
        wrong("1;2;3;4;5;6;7;8;9;10;11;12; if", 28);
        wrong("1;2;3;4;5;6;7;8;9;10;11;12;", 27);
    }

    private static void theOneBefore() {
        RopeFerry ferry = new RopeFerry();
        Checks.rule(ferry, "1;2;3");
        Checks.tell(ferry, "1;x");
        Checks.thrown("rule '1;x'", IllegalArgumentException.class, ferry::rule);
        Checks.due("the rule before stays", ferry.count(9), 3);
        Checks.rule(ferry, "4");
        Checks.due("a rule is in place of the one before", ferry.count(9), 1);
        Checks.rule(ferry, "");
        Checks.due("also one without a LINE", ferry.count(9), 0);
        Checks.due("texts of the river", ferry.count(1), 0);
    }
}
