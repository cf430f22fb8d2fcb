/** The edges of the LAW and of TAKES: values that wrap, division by 0, 0 at least, 30 at most, what is by now. */
public final class LawEdgesTest {
    private static final Checks c = new Checks("LawEdgesTest");
    // 2 to the 31, which is the least number once it wraps.
    private static final String LEAST = "512*512*512*16";

    public static void main(String[] args) {
        atLeastAndAtMost();
        withoutALaw();
        wraps();
        divides();
        byZero();
        leastAndMost();
        orderOfSigns();
        factsAtTheirEdges();
        takesOfNow();
        leftAndSungByNow();
        c.end();
    }

    private static void value(String law, int due) {
        Script.run(c, "law " + law, "law '" + law + "' = 1", "would 3 7 11 5 13 4 17 6 = " + due);
    }

    // "what comes out, 0 at least, 30 at most"
    private static void atLeastAndAtMost() {
        value("0", 0);
        value("1", 1);
        value("29", 29);
        value("30", 30);
        value("31", 30);
        value("999", 30);
        value("0-1", 0);
        value("0-999", 0);
        value("1-1", 0);
        value("2-1", 1);
        // What comes out alone is held in these bounds, not what leads to it.
        value("999-998", 1);
        value("(31-30)*7", 7);
        value("(0-5)+8", 3);
        value("(0-5)*(0-5)", 25);
        value("most[40,50]-45", 5);
        value("(1-999)/(0-100)", 9);
        Script.run(c, "takes keeps to it, too", "choir 'singer 0 0 30;note 0 9;' = 1", "law 'length*3' = 1", "takes 0 0 = 27",
                "law 'length*3+3' = 1", "takes 0 0 = 30", "law 'length*3+4' = 1", "takes 0 0 = 30", "law 'length-9' = 1",
                "takes 0 0 = 0", "law 'length-10' = 1", "takes 0 0 = 0", "work 'sing 0;' = 1", "singer 0 3 = 30",
                "law '99' = 1", "work 'sing 0;' = 1", "singer 0 3 = 0");
    }

    // "without: length"
    private static void withoutALaw() {
        Script.run(c, "without", "would 1 60 30 9999 19 5 400 6 = 1", "would 9 0 0 0 0 0 0 0 = 9",
                "choir 'singer 0 0 30;note 0 9;' = 1", "takes 0 0 = 9", "law '2' = 1", "takes 0 0 = 2",
                "law '3+' = -9 @ 2", "takes 0 0 = 2", "law '' = -9 @ 0", "takes 0 0 = 2", "law '1000' = -8 @ 0",
                "takes 0 0 = 2", "law '(((((((' = -7 @ 6", "takes 0 0 = 2", "choir 'x' = -9 @ 0", "takes 0 0 = 2",
                "choir 'singer 0 0 30;note 0 9;' = 1", "takes 0 0 = 9", "would 4 0 0 0 0 0 0 0 = 4");
    }

    // "Values are whole numbers of 32 bits that wrap"
    private static void wraps() {
        value(LEAST, 0);
        value(LEAST + "-1", 30);
        value(LEAST + "-1+1", 0);
        value(LEAST + "-1-" + LEAST, 0);
        value(LEAST + "+" + LEAST + "+7", 7);
        value("512*512*512*32+7", 7);
        value("0-" + LEAST, 0);
        value("0-" + LEAST + "-1", 30);
        value("(" + LEAST + "-1)*2+9", 7);
        value(LEAST + "*(0-1)", 0);
        value(LEAST + "*(0-1)-1", 30);
        value(LEAST + "*3+" + LEAST + "+4", 4);
        // 999 to the 4th is -426,416,671 + 232 * 2 to the 32.
        value("999*999*999*999/999/999/10+50", 8);
    }

    // "/ cuts, % leaves (with the sign of what is divided)"
    private static void divides() {
        value("7/2", 3);
        value("(0-7)/2+10", 7);
        value("7/(0-2)+10", 7);
        value("(0-7)/(0-2)", 3);
        value("1/2", 0);
        value("(0-1)/2+10", 10);
        value("7%2", 1);
        value("(0-7)%2+10", 9);
        value("7%(0-2)+10", 11);
        value("(0-7)%(0-2)+10", 9);
        value("6%3+10", 10);
        value("(0-6)%3+10", 10);
        // The least number divided by 0 less 1 wraps: it stays the least; nothing is left.
        value(LEAST + "/(0-1)", 0);
        value(LEAST + "/(0-1)-1", 30);
        value(LEAST + "%(0-1)+20", 20);
        value(LEAST + "/512/512/512+20", 4);
        value(LEAST + "%999+" + LEAST + "%999*(0-1)+3", 3);
    }

    // "by 0 both are 0"
    private static void byZero() {
        String[] divided = {"7", "0", "(0-7)", "(" + LEAST + ")", "(" + LEAST + "-1)"};
        for (String n : divided) {
            value(n + "/0+9", 9);
            value(n + "%0+9", 9);
            value(n + "/(length-3)+9", 9);
            value(n + "%(pay-7)+9", 9);
            value("9-" + n + "/0%0", 9);
        }
        value("0/7+9", 9);
        value("0%7+9", 9);
        Script.run(c, "by a fact that is 0 now", "choir 'singer 0 0 30;note 0 9;' = 1", "law 'length/day' = 1",
                "takes 0 0 = 0", "work 'day;' = 1", "takes 0 0 = 9", "law '20%pay+1' = 1", "takes 0 0 = 1");
    }

    private static void leastAndMost() {
        value("least[3,4]", 3);
        value("least[4,3]", 3);
        value("least[4,4]", 4);
        value("most[3,4]", 4);
        value("most[4,3]", 4);
        value("most[4,4]", 4);
        value("least[0-5,3]+10", 5);
        value("most[0-5,3]+10", 13);
        value("most[0-5,0-3]+10", 7);
        value("least[" + LEAST + "," + LEAST + "-1]+" + LEAST + "+6", 6);
        value("most[" + LEAST + "," + LEAST + "-1]+" + LEAST + "+6", 5);
    }

    // "E: T { + or - T }. T: U { * or / or % U }"
    private static void orderOfSigns() {
        value("2+3*4", 14);
        value("3*4+2", 14);
        value("20-6/3", 18);
        value("20-7%4", 17);
        value("20-5-4", 11);
        value("20-(5-4)", 19);
        value("20-5+4", 19);
        value("24/4/3", 2);
        value("24/(4/3)", 24);
        value("24/4*3", 18);
        value("24%10*3", 12);
        value("3*24%10", 2);
        value("29%(20%11)", 2);
        value("29%20%11", 9);
        value("(2+3)*(1+1)", 10);
    }

    // Promise 14: each fact at the least and at the most that may be told.
    private static void factsAtTheirEdges() {
        String[][] facts = {{"length", "1 0 0 0 0 0 0 0", "1", "9 0 0 0 0 0 0 0", "9"},
            {"pay-40", "1 40 0 0 0 0 0 0", "0", "1 60 0 0 0 0 0 0", "20"},
            {"left", "1 0 0 0 0 0 0 0", "0", "1 0 30 0 0 0 0 0", "30"},
            {"sung-998*10", "1 0 0 0 0 0 0 0", "0", "1 0 0 9999 0 0 0 0", "19"},
            {"note", "1 0 0 0 0 0 0 0", "0", "1 0 0 0 19 0 0 0", "19"},
            {"vowel", "1 0 0 0 0 0 0 0", "0", "1 0 0 0 0 5 0 0", "5"},
            {"day-380", "1 0 0 0 0 0 0 0", "0", "1 0 0 0 0 0 400 0", "20"},
            {"singer", "1 0 0 0 0 0 0 0", "0", "1 0 0 0 0 0 0 6", "6"}};
        for (String[] row : facts) {
            Script.run(c, "law " + row[0], "law '" + row[0] + "' = 1", "would " + row[1] + " = " + row[2],
                    "would " + row[3] + " = " + row[4]);
        }
    }

    // Promise 13: "TAKES of a NOTE by a SINGER now (of its VOWEL or not)"
    private static void takesOfNow() {
        Script.run(c, "facts of now", "choir 'singer 0 5 9;singer 1 7 8;note 0 2;note 1 3;like 0 1;' = 2",
                "law 'pay*10/length' = 1", "takes 0 0 = 25", "takes 1 0 = 16", "takes 0 1 = 30", "takes 1 1 = 23",
                "law 'note*10+singer' = 1", "takes 0 0 = 0", "takes 1 0 = 10", "takes 0 1 = 1", "takes 1 1 = 11",
                "law 'vowel*9+day*4+left' = 1", "takes 0 0 = 9", "takes 0 1 = 8", "takes 1 1 = 17", "work 'word 0 1;day;' = 2",
                "takes 0 0 = 22", "takes 0 1 = 21", "work 'hoarse 0;hoarse 1;' = 2", "takes 0 0 = 22", "takes 0 1 = 21");
    }

    // "left" (the breath the SINGER has by now), "sung" (NOTES it sang by now): within one hymn, too
    private static void leftAndSungByNow() {
        Script.run(c, "left by now", "choir 'singer 0 5 24;note 0 1;note 0 1;note 0 1;' = 1", "law 'left/2' = 1",
                "work 'hymn;' = 1", "singer 0 3 = 3", "work 'sing 0;' = 1", "singer 0 3 = 2", "work 'sing 0;' = 1",
                "singer 0 3 = 1", "work 'sing 0;' = 1", "singer 0 3 = 1");
        Script.run(c, "sung by now", "choir 'singer 0 5 30;note 0 1;note 0 1;note 0 1;' = 1", "law 'sung*5' = 1",
                "work 'hymn;' = 1", "singer 0 3 = 15", "work 'sing 0;' = 1", "singer 0 3 = 0", "work 'sing 0;' = 0",
                "singer 0 5 = 4", "work 'day;sing 0;' = 2", "singer 0 3 = 10", "takes 0 0 = 25", "singer 0 7 = 1");
        Script.run(c, "sung is not of this day alone", "choir 'singer 0 5 30;note 0 1;' = 1", "law 'sung*5' = 1",
                "work 'sing 0;sing 0;day;' = 3", "takes 0 0 = 10");
    }
}
