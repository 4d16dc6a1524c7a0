import java.util.Random;

/** Random runs of up to 512 calls, the class held against PlainTallow call by call. */
public final class RandomRunsTests {
    private static final int RUNS = 700;
    private static final int[] ODD = {Integer.MIN_VALUE, -1000000007, -9, -1, 99, 1000000000, Integer.MAX_VALUE};

    private final Random random;
    private final int run;
    private final TallowHours real = new TallowHours();
    private final PlainTallow plain = new PlainTallow();
    private final StringBuilder log = new StringBuilder();
    private int calls;
    private boolean wrong;

    private RandomRunsTests(int run) {
        this.run = run;
        this.random = new Random(run);
    }

    public static void main(String[] args) {
        int wrongs = 0;
        int runs = args.length == 1 ? Integer.parseInt(args[0]) : RUNS;
        for (int run = 0; run < runs && wrongs < 5; run++) {
            RandomRunsTests r = new RandomRunsTests(run);
            r.go();
            if (r.wrong) wrongs++;
        }
        System.out.println(wrongs == 0 ? "random runs: all answers are alike" : "random runs: " + wrongs + " went wrong");
        if (wrongs != 0) System.exit(1);
    }

    private void same(String call, long got, long want) {
        calls++;
        log.append(call).append(" = ").append(got).append('\n');
        if (got != want && !wrong) {
            wrong = true;
            System.out.println("run " + run + ": " + call + " answered " + got + ", due is " + want + ", after\n" + log);
        }
    }

    private int upTo(int most) { return random.nextInt(most + 1); }

    /** Mostly 0 to most, at times just outside, at times far outside. */
    private int about(int most) {
        int r = random.nextInt(40);
        if (r == 0) return ODD[random.nextInt(ODD.length)];
        if (r < 3) return random.nextBoolean() ? -1 : most + 1;
        return upTo(most);
    }

    private void go() {
        if (random.nextInt(10) > 0) tellParty();
        while (calls < 400 && !wrong) {
            if (random.nextInt(60) == 0) tellParty();
            oneCall();
        }
        lookAtAll();
    }

    private void tellParty() {
        same("wipe()", real.wipe(), plain.wipe());
        String text = partyText();
        if (random.nextInt(4) == 0) text = spoilt(text);
        for (int i = 0; i < text.length(); i++) put(text.charAt(i));
        same("fault()", real.fault(), plain.fault());
        same("party()", real.party(), plain.party());
    }

    private void put(int letter) { same("write(" + letter + ")", real.write(letter), plain.write(letter)); }

    private String partyText() {
        StringBuilder b = new StringBuilder("E");
        int moments = random.nextInt(4) == 0 ? upTo(12) : 4 + upTo(8);
        int kinds = 1 + upTo(4);
        for (int i = 0; i < moments; i++) b.append("abcd-".charAt(kinds > 4 ? upTo(4) : random.nextInt(8) == 0 ? 4 : upTo(kinds - 1)));
        int most = random.nextInt(8) == 0 ? 5 : 4;
        int cs = upTo(most), gs = upTo(most);
        while (cs + gs > 0) {
            boolean candle = gs == 0 || cs > 0 && random.nextBoolean();
            if (candle) cs--; else gs--;
            if (candle && moments == 0 && random.nextInt(4) > 0) continue;
            if (candle) {
                int start = moments == 0 ? 0 : random.nextInt(moments);
                int l = moments == 0 ? 1 : 1 + random.nextInt(Math.min(6, moments - start));
                b.append('C').append(start / 10).append(start % 10).append(l).append(1 + upTo(8));
            } else {
                int a = random.nextInt(3) == 0 ? upTo(9) : upTo(2);
                int to = random.nextInt(3) == 0 ? a + upTo(9 - a) : 9;
                int wants = random.nextInt(4) == 0 ? 1 + upTo(5) : 1 + upTo(1);
                b.append('G').append("abcd".charAt(upTo(Math.min(kinds, 4) - 1))).append(wants).append(a).append(to);
            }
        }
        return b.toString();
    }

    private String spoilt(String text) {
        int i = random.nextInt(text.length());
        String letters = "Eabcde-CG0123456789 /:`" + (char) 255;
        char other = letters.charAt(random.nextInt(letters.length()));
        switch (random.nextInt(4)) {
            case 0: return text.substring(0, i);
            case 1: return text.substring(0, i) + other + text.substring(i + 1);
            case 2: return text.substring(0, i) + other + text.substring(i);
            default: return text + text;
        }
    }

    private void oneCall() {
        int kind = random.nextInt(34);
        if (kind < 10) act(kind);
        else if (kind < 17) planCall(kind);
        else if (kind < 26) otherCall(kind);
        else lookCall(kind);
    }

    private void act(int kind) {
        int c = about(3);
        switch (kind) {
            case 0: same("light(" + c + ")", real.light(c), plain.light(c)); break;
            case 1: if (random.nextInt(3) == 0) same("out(" + c + ")", real.out(c), plain.out(c)); break;
            case 2: {
                int k = random.nextInt(3) == 0 ? about(6) : 1;
                same("trim(" + c + ", " + k + ")", real.trim(c, k), plain.trim(c, k));
                break;
            }
            case 3: case 4: for (int n = random.nextInt(25) == 0 ? 21 : 1; n > 0; n--) same("step()", real.step(), plain.step()); break;
            case 5: case 6: case 7: for (int n = random.nextInt(9) == 0 ? 18 : upTo(2); n > 0; n--) same("undo()", real.undo(), plain.undo()); break;
            case 8: {
                int s = about(1);
                same("keep(" + s + ")", real.keep(s), plain.keep(s));
                break;
            }
            default: {
                int s = about(1);
                same("again(" + s + ")", real.again(s), plain.again(s));
            }
        }
    }

    private void planCall(int kind) {
        int c = about(3), o = about(3);
        boolean upper = random.nextBoolean();
        boolean slow = random.nextInt(12) != 0;
        switch (kind) {
            case 10: if (!slow) same("plan()", real.plan(), plain.plan()); break;
            case 11: if (!slow) same("planOf(" + c + ")", real.planOf(c), plain.planOf(c)); break;
            case 12: if (!slow) same("bars()", real.bars(), plain.bars()); break;
            case 13: if (!slow) same("share(" + c + ", " + upper + ")", real.share(c, upper), plain.share(c, upper)); break;
            case 14: same("table(" + c + ", " + o + ")", real.table(c, o), plain.table(c, o)); break;
            case 15: same("pairs()", real.pairs(), plain.pairs()); break;
            default: {
                int n = about(9);
                int row = figures(n, 4);
                same("judge(" + n + ", " + row + ")", real.judge(n, row), plain.judge(n, row));
            }
        }
    }

    /** A row of about n figures, each up to most, seldom more. */
    private int figures(int n, int most) {
        if (random.nextInt(30) == 0) return ODD[random.nextInt(ODD.length)];
        long row = 0;
        int many = Math.max(0, Math.min(9, random.nextInt(20) == 0 ? n + 1 : n));
        for (int i = 0; i < many; i++) row = row * 10 + (random.nextInt(30) == 0 ? upTo(9) : upTo(most));
        return (int) row;
    }

    private int orders(int k) {
        int row = 0;
        for (int i = 0; i < Math.min(k, 9); i++) row = row * 10 + 1 + upTo(8);
        return row;
    }

    private void otherCall(int kind) {
        boolean flag = random.nextBoolean();
        int l = about(6), m = about(4), c = about(3);
        switch (kind) {
            case 17: case 18: {
                int k = random.nextInt(10) == 0 ? about(3) : 1 + upTo(2);
                int row = figures(k, 4);
                same("stub(" + k + ", " + row + ", " + flag + ")", real.stub(k, row, flag), plain.stub(k, row, flag));
                break;
            }
            case 19: {
                int next = random.nextInt(3) == 0 ? m : Math.max(plain.moment(plain.seen.size() + 1), 0);
                same("see(" + next + ")", real.see(next), plain.see(next));
                break;
            }
            case 20: if (random.nextInt(3) == 0) same("unsee()", real.unsee(), plain.unsee()); break;
            case 21: same("from(" + l + ")", real.from(l), plain.from(l)); break;
            case 22: same("next(" + l + ", " + m + ", " + flag + ")", real.next(l, m, flag), plain.next(l, m, flag)); break;
            case 23: {
                int n = random.nextInt(6) == 0 ? about(30) : 5 + upTo(20);
                int k = random.nextInt(10) == 0 ? about(7) : 1 + upTo(5);
                int orders = random.nextInt(5) == 0 ? figures(k, 9) : orders(k);
                same("cut(" + n + ", " + k + ", " + orders + ")", real.cut(n, k, orders), plain.cut(n, k, orders));
                break;
            }
            case 24: {
                int x = about(10), gift = about(3);
                same("draught(" + c + ", " + x + ", " + gift + ", " + flag + ")", real.draught(c, x, gift, flag), plain.draught(c, x, gift, flag));
                break;
            }
            default: {
                if (flag) {
                    long v = random.nextLong();
                    same("seed(" + v + ")", real.seed(v), plain.seed(v));
                }
                int n = about(21);
                same("night(" + n + ")", real.night(n), plain.night(n));
            }
        }
    }

    private void lookCall(int kind) {
        int a = about(3), what = about(6), p = about(12);
        switch (kind) {
            case 26: same("moment(" + p + ")", real.moment(p), plain.moment(p)); break;
            case 27: case 28: same("candle(" + a + ", " + what + ")", real.candle(a, what), plain.candle(a, what)); break;
            case 29: case 30: same("guest(" + a + ", " + what + ")", real.guest(a, what), plain.guest(a, what)); break;
            case 31: case 32: same("count(" + p + ")", real.count(p), plain.count(p)); break;
            default: if (random.nextInt(3) == 0) put(random.nextInt(3) == 0 ? random.nextInt(9) == 0 ? 0 : about(255) : "EabC0G1".charAt(upTo(6)));
        }
    }

    private void lookAtAll() {
        for (int what = -1; what <= 10; what++) same("count(" + what + ")", real.count(what), plain.count(what));
        for (int a = -1; a <= 4; a++) {
            for (int what = 0; what <= 3; what++) same("candle(" + a + ", " + what + ")", real.candle(a, what), plain.candle(a, what));
            for (int what = 0; what <= 5; what++) same("guest(" + a + ", " + what + ")", real.guest(a, what), plain.guest(a, what));
        }
        long last = plain.seed(0L);
        same("seed(0)", real.seed(0L), last);
    }
}
