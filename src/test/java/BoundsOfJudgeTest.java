/** The bounds of told doings that are JUDGED: promise 20. */
public final class BoundsOfJudgeTest {
    private static final int OUTSIDE = Bounds.OUTSIDE, NONE = Bounds.NONE;

    private static Bounds two() {
        return Bounds.of("put(0, 1, 0, 5)", "put(2, 3, 0, 15)");
    }

    /** Each of these doings alone can be. */
    private static void can(Bounds x, String doings) {
        x.each(doings, "judge(1, #)", NONE);
    }

    /** None of these doings can be, neither alone nor behind one that can. */
    private static void canNot(Bounds x, String doings) {
        x.each(doings, "judge(1, #)", 0);
        x.each(doings, "judge(2, 50000#)", 1);
    }

    private static void howMany() {
        Bounds.says("n doings (1 to 3)");
        Bounds x = two();
        x.due("judge(1, 40100)", NONE).due("judge(2, 4010040100)", NONE).due("judge(3, 401004010040100)", NONE);
        Bounds.says("OUTSIDE: n");
        x.each("0 -1 4 min max", "judge(#, 40100)", OUTSIDE).each("0 -1 4 min max", "judge(#, -1)", OUTSIDE);
        Bounds.says("row (0 or more, 5 n figures at most)");
        x.due("judge(1, 0)", 0).due("judge(2, 0)", 0).due("judge(3, 0)", 0);
        x.each("-1 -40100 min", "judge(1, #)", OUTSIDE).each("-1 min", "judge(2, #)", OUTSIDE);
        x.each("-1 min", "judge(3, #)", OUTSIDE);
        x.due("judge(1, 99999)", 0).due("judge(1, 100000)", OUTSIDE).due("judge(1, 4010040100)", OUTSIDE);
        x.due("judge(2, 9999999999)", 0).due("judge(2, 10000000000)", OUTSIDE);
        x.due("judge(3, 999999999999999)", 0).due("judge(3, 1000000000000000)", OUTSIDE);
        x.due("judge(3, max)", OUTSIDE).due("judge(1, max)", OUTSIDE);
        // 2 to the 32nd, and that with 40100 more, which an int takes for 0 and for 40100
        x.due("judge(1, 4294967296)", OUTSIDE).due("judge(1, 4295007396)", OUTSIDE).due("judge(2, 4294967296)", 0);
    }

    private static void places() {
        Bounds.says("told as five figures each (the first one's are the highest of row)");
        Bounds x = two();
        x.due("judge(2, 4010040107)", 1).due("judge(2, 4010740100)", 0).due("judge(3, 401004010040107)", 2);
        x.due("judge(3, 401004010740100)", 1).due("judge(3, 401074010040100)", 0);
        x.due("judge(2, 40100)", 0).due("judge(3, 4010040100)", 0).due("judge(2, 4010000000)", 1);
        Bounds.says("the place of the first that can not be (or is not so)");
        x.due("judge(3, 401074010740107)", 0).due("judge(3, 401004010740107)", 1).due("judge(3, 401000000000000)", 1);
        Bounds.says("NONE: none.");
        x.due("judge(3, 101692000150700)", NONE).due("judge(1, 50000)", NONE);
        Bounds.says("(1, 2, 3, 4, 5: there is no other doing)");
        canNot(x, "00000 00100 09999 60000 60100 70000 80000 90000 99999");
    }

    private static void put() {
        Bounds.says("1, two KNOTS, two TIMES of one figure each, 0 to 9: PUT, from that one to that one");
        Bounds x = two();
        can(x, "14500 14509 14599 16700 17600 10166 10169 11066 10266");
        canNot(x, "14510 14598 14400 10000 17700 18000 10800 18900 19900 10155 11055 10100 10159 10109 12300");
        can(new Bounds(), "10100 10109 16799");
        Bounds.says("(a PUT of a 17th can not be)");
        Bounds fifteen = Bounds.living(Bounds.SIXTEEN.substring(0, 46));
        can(fifteen, "16700 13700");
        fifteen.due("judge(2, 1670013700)", 1).due("judge(3, 200001670013700)", NONE);
        Bounds sixteen = Bounds.living(Bounds.SIXTEEN);
        canNot(sixteen, "16700 13700");
        sixteen.due("judge(2, 2001516700)", NONE).due("judge(3, 200151670013700)", 2);
    }

    private static void cut() {
        Bounds.says("2, 0, 0, two figures: CUT of the SPAN of that number");
        can(two(), "20000 20001");
        canNot(two(), "20002 20010 20016 20099");
        canNot(new Bounds(), "20000 20001");
        Bounds sixteen = Bounds.living(Bounds.SIXTEEN);
        can(sixteen, "20000 20009 20010 20015");
        canNot(sixteen, "20016 20099");
        Bounds.says("(2, 0, 0: with other figures there it is no doing that is told)");
        canNot(sixteen, "20100 21000 21100 29900");
    }

    private static void ended() {
        Bounds.says("3, two figures a SPAN, two figures a TIME: ENDED");
        can(two(), "30000 30004 30006 30015 30100 30114");
        canNot(two(), "30005 30115 30016 30099 30116 30200 30215 39900");
        canNot(new Bounds(), "30000 30001");
        Bounds x = Bounds.of("put(0, 1, 0, 3)", "put(0, 1, 8, 9)");
        can(x, "30007 30002 30108 30110 30115");
        canNot(x, "30008 30009 30010 30015 30107 30100 30109 30003");
        // TIME 0 as the last one that was is no refusal
        can(Bounds.of("put(0, 1, 0, 0)"), "30001 30015");
        Bounds sixteen = Bounds.living(Bounds.SIXTEEN);
        can(sixteen, "30000 31010 31414 31314");
        canNot(sixteen, "31009 31413 31514 31515 31516 31600 31615");
    }

    private static void joined() {
        Bounds.says("4, two KNOTS, two figures a TIME: they are JOINED then");
        can(two(), "40100 40105 41005 42315 43200 44400 47715 40015");
        canNot(two(), "40106 40115 40116 42316 42399 44416 40800 48000 48800 49900 40200 46700");
    }

    private static void parts() {
        Bounds.says("5, 0, a figure v, two figures a TIME: there are v PARTS or more then");
        can(two(), "50000 50100 50600 50605 50706 50715 50615");
        canNot(two(), "50700 50705 50806 50815 50915 50900 50016 50116 50099");
        can(new Bounds(), "50800 50815 50000");
        canNot(new Bounds(), "50900 50915");
        Bounds one = Bounds.living("L+01+02+03+04+05+06+07");
        can(one, "50115 50015 50106 50205");
        canNot(one, "50215 50206 50305");
        Bounds.says("(5, 0: with another figure there it is no doing that is told)");
        canNot(two(), "51000 51600 59000");
    }

    private static void oneBehindAnother() {
        Bounds.says("JUDGED: n doings (each one behind those ahead of it)");
        Bounds x = two();
        // numbers of SPANS are those behind a CUT and a PUT
        x.due("judge(2, 2000120001)", 1).due("judge(2, 2000120000)", NONE).due("judge(3, 200002000020000)", 2);
        x.due("judge(2, 1450020002)", NONE).due("judge(2, 1450020003)", 1).due("judge(2, 1450014500)", 1);
        x.due("judge(2, 2000010105)", NONE).due("judge(2, 1010520000)", 0).due("judge(3, 200001010540105)", NONE);
        x.due("judge(2, 3000640106)", NONE).due("judge(2, 3000440105)", 1).due("judge(2, 3000430005)", NONE);
        x.due("judge(2, 1120950606)", NONE).due("judge(2, 1120950605)", 1).due("judge(2, 2000050700)", NONE);
        Bounds.says("JUDGED: nothing is changed");
        x.leaves("judge(3, 200001450030006)").leaves("judge(3, 145002000099999)").leaves("judge(2, 3000620001)");
        x.due("count(4)", 2).isSpan(0, "0105").isSpan(1, "230f");
    }

    public static void main(String[] args) {
        howMany();
        places();
        put();
        cut();
        ended();
        joined();
        parts();
        oneBehindAnother();
        Bounds.end();
    }
}
