import java.util.function.IntUnaryOperator;

/** The document's sections "Promise 1" to "Promise 32", sentence by sentence, in their order. */
public final class SentenceTests {
    private static final int UNKNOWN = Hours.UNKNOWN, OUTSIDE = Hours.OUTSIDE, STATE = Hours.STATE, FULL = Hours.FULL, NONE = Hours.NONE;
    private static Sheet sheet;

    public static void main(String[] args) throws Exception {
        sheet = new Sheet("sentences");
        calls();
        anew();
        writing();
        wiping();
        faults();
        parties();
        moments();
        candles();
        guests();
        lighting();
        puttingOut();
        trimming();
        steps();
        undoing();
        plans();
        plansOf();
        bars();
        shares();
        tables();
        pairs();
        judging();
        stubs();
        seeing();
        unseeing();
        froms();
        nexts();
        cuts();
        draughts();
        seeds();
        nights();
        keeping();
        goingOn();
        counts();
        for (int n = 1; n <= 32; n++) {
            sheet.whole("Promise " + n);
            sheet.allRefusals("Promise " + n);
        }
        sheet.end();
    }

    private static void promise(int n) { sheet.section("Promise " + n); }
    private static void says(String words) { sheet.says(words); }
    private static void due(String what, long got, long want) { sheet.due(what, got, want); }

    /** A number from low to high is taken; one less, one more, and the ends of all ints are refused so. */
    private static void refusedBut(String what, int refusal, int low, int high, IntUnaryOperator call) {
        for (int value : new int[] {low - 1, high + 1, Hours.LEAST, Hours.MOST}) due(what + " " + value, call.applyAsInt(value), refusal);
        for (int value = low; value <= high; value++) sheet.holds(what + " " + value + " is taken", call.applyAsInt(value) != refusal);
    }

    private static void calls() {
        sheet.section("What it is");
        says("An object is used for at most 512 calls after it has been made; what later calls answer is free.");
        TallowHours t = new TallowHours();
        for (int round = 0; round < 25; round++) {
            for (char c : "EaC0011Ga109".toCharArray()) t.write(c);
            t.party();
            t.light(0);
            t.step();
            t.plan();
            t.keep(1);
            t.undo();
            t.wipe();
        }
        Hours.write(t, "EaC0011Ga109");
        due("call 488 is a party", t.party(), 11);
        for (int i = 0; i < 20; i++) due("calls 489 to 508", t.step(), 0);
        due("call 509", t.step(), STATE);
        due("call 510", t.light(0), 1);
        due("call 511", t.undo(), 15);
        due("call 512", t.plan(), NONE);
    }

    // ---- the party

    private static void anew() {
        promise(1);
        says("No evening, no candles, nobody.");
        TallowHours t = new TallowHours();
        due("evening", t.count(1), 0);
        due("its first moment", t.moment(0), NONE);
        due("candles", t.count(2), 0);
        due("guests", t.count(3), 0);
        for (int i = 0; i < 4; i++) {
            due("candle " + i, t.candle(i, 0), UNKNOWN);
            due("guest " + i, t.guest(i, 0), UNKNOWN);
        }
        due("no slot is kept", t.again(0), STATE);
        due("nor the other", t.again(1), STATE);
        due("no act", t.undo(), STATE);
        due("the seed", t.seed(0), 0);
        TallowHours other = new TallowHours();
        Hours.retold(other, "EaC0011");
        due("one object is not another", t.count(2), 0);
    }

    private static void writing() {
        promise(2);
        says("A letter (0 to 255) comes behind THE TEXT: how long it is.");
        TallowHours t = new TallowHours();
        for (int letter : new int[] {'E', 'a', 0, 255}) due("letter " + letter, t.write(letter), t.count(0));
        due("it comes behind: the third is the fault", t.fault(), 2);
        says("OUTSIDE;");
        for (int letter : new int[] {-1, 256, Hours.LEAST, Hours.MOST, 'E' + 256, 'E' - 256}) due("letter " + letter, t.write(letter), OUTSIDE);
        due("none of them came", t.count(0), 4);
        says("FULL: there are 64.");
        for (int length = 5; length <= 64; length++) due("letter " + length, t.write('a'), length);
        due("letter 65", t.write('a'), FULL);
        due("there are 64", t.count(0), 64);
        t.wipe();
        due("behind a wipe", t.write('a'), 1);
    }

    private static void wiping() {
        promise(3);
        says("THE TEXT is empty: how long it was.");
        TallowHours t = new TallowHours();
        due("of none", t.wipe(), 0);
        Hours.write(t, "Eab");
        t.party();
        due("of three", t.wipe(), 3);
        due("it is empty", t.count(0), 0);
        due("the fault of an empty text", t.fault(), 0);
        due("THE PARTY stays", t.count(1), 2);
        due("again", t.wipe(), 0);
        for (int i = 0; i < 70; i++) t.write('E');
        due("of a full one", t.wipe(), 64);
    }

    private static void faults() {
        promise(4);
        says("FAULT; NONE.");
        due("of an empty text", new TallowHours().fault(), 0);
        due("none", Hours.faultOf("EaC0011Ga109"), NONE);
        due("at the first letter", Hours.faultOf("aE"), 0);
        due("at the last letter", Hours.faultOf("EaC0011Ga100Ga198"), 16);
        due("at its end", Hours.faultOf("EaC0011Ga1"), 10);
        TallowHours t = Hours.written("EaC");
        due("asked once", t.fault(), 3);
        due("asked again", t.fault(), 3);
        Hours.write(t, "0011");
        due("gone on", t.fault(), NONE);
        t.write('x');
        due("and on", t.fault(), 7);
        due("THE PARTY is still E", t.count(1) + t.count(2), 0);
        TallowHours other = Hours.party("EabC0021Ga109");
        Hours.lit(other, 0).step();
        other.wipe();
        Hours.write(other, "EccccC0044C0044Gd600Gd6");
        due("a text that is not yet one", other.fault(), 23);
        due("leaves the candles of THE PARTY", other.candle(0, 1) * 10 + other.candle(0, 2), 11);
        due("its guests", other.guest(0, 0) * 10 + other.guest(0, 1), 1);
        due("its evening", other.moment(0), 0);
    }

    private static void parties() {
        promise(5);
        says("THE TEXT is THE PARTY");
        TallowHours t = Hours.party("EabcC0032Gb109");
        due("moments", t.count(1), 3);
        due("candle", t.candle(0, 1), 3);
        due("guest", t.guest(0, 0), 1);
        due("THE TEXT stays", t.count(0), 14);
        says("(THE ROW of ACTS is empty, what was kept is gone; what is SEEN of THE BOX, THE SEED stay):");
        t.light(0);
        t.step();
        t.keep(0);
        t.keep(1);
        Hours.seen(t, 1, 2);
        t.seed(-5);
        due("acts ahead of it", t.count(8), 2);
        due("party", t.party(), 11);
        due("acts", t.count(8), 0);
        due("none to undo", t.undo(), STATE);
        due("slot 0", t.again(0), STATE);
        due("slot 1", t.again(1), STATE);
        due("seen", t.count(9), 2);
        due("what is seen is the same", t.from(2), 2);
        due("seed", t.seed(0), -5);
        says("10 times CANDLES, and GUESTS.");
        due("none", Hours.retold(t, "E"), 0);
        due("the most", Hours.retold(t, Hours.LONGEST), 44);
        due("guests alone", Hours.retold(t, "EGa109Gb109"), 2);
        due("candles alone", Hours.retold(t, "EaC0011C0011C0011"), 30);
        due("of the most none is left", Hours.retold(t, "E") + t.count(1) + t.count(2) + t.count(3), 0);
        due("moment 0 of the one before", t.moment(0), NONE);
        says("STATE: a FAULT.");
        TallowHours held = Hours.party("EaC0011Ga109");
        Hours.lit(held, 0).step();
        for (String text : new String[] {"", "e", "Ex", "EaC", "EC0011", "EaC0011Ga10", "EaC0011Ga109x"}) {
            due("of \"" + text + "\"", Hours.retold(held, text), STATE);
            due("THE PARTY stays", held.count(2) * 100 + held.count(3) * 10 + held.count(4), 111);
        }
    }

    private static void moments() {
        promise(6);
        TallowHours t = Hours.party("Edcba-");
        says("A MOMENT of THE EVENING: its GIFT;");
        for (int place = 0; place < 4; place++) due("place " + place, t.moment(place), 3 - place);
        says("4: corridor;");
        due("place 4", t.moment(4), 4);
        says("NONE: there are not so many.");
        for (int place : new int[] {5, 6, 11, 12, 13, Hours.MOST}) due("place " + place, t.moment(place), NONE);
        for (int place : new int[] {-1, -9, Hours.LEAST}) due("place " + place, t.moment(place), NONE);
        due("none at all", new TallowHours().moment(0), NONE);
        Hours.retold(t, "Eabcdabcdabcd");
        due("the twelfth", t.moment(11), 3);
        due("a thirteenth", t.moment(12), NONE);
    }

    private static void candles() {
        promise(7);
        TallowHours t = Hours.party("EaabC0122C0039C0011C0015");
        Hours.lit(t, 1, 2, 3);
        t.out(3);
        t.step();
        says("Of a CANDLE its next MOMENT (what = 0: its place; NONE: no INCHES are left),");
        due("never lit", t.candle(0, 0), 1);
        due("it burns", t.candle(1, 0), 1);
        due("burnt", t.candle(2, 0), NONE);
        due("out, with an inch", t.candle(3, 0), 0);
        t.trim(0, 1);
        due("trimmed", t.candle(0, 0), 2);
        says("INCHES left (1),");
        due("trimmed", t.candle(0, 1), 1);
        due("it burns", t.candle(1, 1), 2);
        due("burnt", t.candle(2, 1), 0);
        due("out", t.candle(3, 1), 1);
        says("price (2),");
        due("the first", t.candle(0, 2), 2);
        due("the last", t.candle(3, 2), 5);
        due("burnt", t.candle(2, 2), 1);
        says("0 never lit, 1 it burns, 2 it is out or burnt (3).");
        due("never lit, trimmed", t.candle(0, 3), 0);
        due("it burns", t.candle(1, 3), 1);
        due("burnt", t.candle(2, 3), 2);
        due("out", t.candle(3, 3), 2);
        says("UNKNOWN;");
        refusedBut("candle", UNKNOWN, 0, 3, c -> t.candle(c, 1));
        due("of three a fourth", Hours.party("EaC0011C0011C0011").candle(3, 0), UNKNOWN);
        says("OUTSIDE.");
        refusedBut("what", OUTSIDE, 0, 3, what -> t.candle(1, what));
    }

    private static void guests() {
        promise(8);
        TallowHours t = Hours.party("EdddC0031Gd209Ga600Gb101Gc699");
        says("Of a GUEST the GIFT it wants (what = 0),");
        for (int g = 0; g < 4; g++) due("guest " + g, t.guest(g, 0), new int[] {3, 0, 1, 2}[g]);
        says("how many (1),");
        for (int g = 0; g < 4; g++) due("guest " + g, t.guest(g, 1), new int[] {2, 6, 1, 6}[g]);
        says("from which STEP (2),");
        for (int g = 0; g < 4; g++) due("guest " + g, t.guest(g, 2), new int[] {0, 0, 0, 9}[g]);
        says("to which (3),");
        for (int g = 0; g < 4; g++) due("guest " + g, t.guest(g, 3), new int[] {9, 0, 1, 9}[g]);
        says("how many it has HAD (4), 1 if it is CONTENT, 0 (5).");
        t.light(0);
        for (int had = 0; had <= 3; had++) {
            due("HAD", t.guest(0, 4), had);
            due("CONTENT with " + had, t.guest(0, 5), had < 2 ? 0 : 1);
            t.step();
        }
        due("another has HAD", t.guest(1, 4), 0);
        due("another is CONTENT", t.guest(1, 5), 0);
        says("UNKNOWN;");
        refusedBut("guest", UNKNOWN, 0, 3, g -> t.guest(g, 4));
        due("of one a second", Hours.party("EGa109").guest(1, 0), UNKNOWN);
        says("OUTSIDE.");
        refusedBut("what", OUTSIDE, 0, 5, what -> t.guest(0, what));
    }

    // ---- acts

    private static void lighting() {
        promise(9);
        says("LIT: how many burn then.");
        TallowHours t = Hours.party("EaaC0011C0021C0021C0021");
        due("the first", t.light(0), 1);
        due("a second", t.light(3), 2);
        t.step();
        due("one is burnt by now", t.light(1), 2);
        t.out(3);
        due("one is out by now", t.light(2), 2);
        due("it burns", t.candle(2, 3), 1);
        due("four at once", Hours.lit(Hours.party("EaC0011C0011C0011C0011"), 3, 1, 0).light(2), 4);
        due("at step 20", Hours.stepped(Hours.party("EaC0011"), 20).light(0), 1);
        says("UNKNOWN;");
        for (int c : new int[] {-1, 4, Hours.LEAST, Hours.MOST}) due("candle " + c, t.light(c), UNKNOWN);
        due("no candles", new TallowHours().light(0), UNKNOWN);
        due("of one a second", Hours.party("EaC0011").light(1), UNKNOWN);
        says("STATE: it was lit.");
        for (int c = 0; c < 4; c++) due("burnt, burns, burns, out: " + c, t.light(c), STATE);
    }

    private static void puttingOut() {
        promise(10);
        says("OUT: INCHES that are left.");
        TallowHours t = Hours.party("EaaaC0031C0031C0011C0011");
        Hours.lit(t, 0, 1, 2);
        due("whole", t.out(0), 3);
        t.step();
        due("an inch is burnt", t.out(1), 2);
        due("none burns", t.count(5), 0);
        says("UNKNOWN;");
        for (int c : new int[] {-1, 4, Hours.LEAST, Hours.MOST}) due("candle " + c, t.out(c), UNKNOWN);
        due("no candles", new TallowHours().out(0), UNKNOWN);
        says("STATE: it does not burn.");
        due("out", t.out(0), STATE);
        due("burnt", t.out(2), STATE);
        due("never lit", t.out(3), STATE);
    }

    private static void trimming() {
        promise(11);
        says("TRIMMED: INCHES that are left.");
        TallowHours t = Hours.party("EabcdabC0061C0061C0061C0021");
        due("by 1", t.trim(0, 1), 5);
        due("by 1 more", t.trim(0, 1), 4);
        due("by 3 more", t.trim(0, 3), 1);
        due("its place", t.candle(0, 0), 5);
        due("by 5", t.trim(1, 5), 1);
        due("it can be lit", t.light(1), 1);
        says("UNKNOWN;");
        for (int c : new int[] {-1, 4, Hours.LEAST, Hours.MOST}) due("candle " + c, t.trim(c, 1), UNKNOWN);
        says("OUTSIDE: k (1 to 5);");
        for (int k : new int[] {0, -1, 6, Hours.LEAST, Hours.MOST}) due("k " + k, t.trim(2, k), OUTSIDE);
        due("they took nothing", t.candle(2, 1), 6);
        for (int k = 1; k <= 5; k++) due("k " + k, Hours.party("EabcdabC0061").trim(0, k), 6 - k);
        says("STATE: it was lit, or has not more than k.");
        due("it burns", t.trim(1, 1), STATE);
        t.light(2);
        due("it burns, and has more", t.trim(2, 1), STATE);
        t.out(2);
        due("it is out, and has more", t.trim(2, 1), STATE);
        t.step();
        due("it is burnt", t.trim(1, 1), STATE);
        due("as many as k", t.trim(3, 2), STATE);
        due("fewer than k", t.trim(3, 5), STATE);
        due("one more than k", t.trim(3, 1), 1);
        due("then as many", t.trim(3, 1), STATE);
    }

    private static void steps() {
        promise(12);
        says("A STEP: who has HAD something, as bits.");
        TallowHours t = Hours.party("EabC0021C0111Gb109Ga109Ga119Ga109");
        Hours.lit(t, 0);
        due("guests 1 and 3", t.step(), 2 + 8);
        t.light(1);
        due("b by two", t.step(), 1);
        due("nothing burns", t.step(), 0);
        TallowHours all = Hours.party("EaC0011Ga109Ga109Ga109Ga109");
        due("all four", Hours.lit(all, 0).step(), 15);
        due("nobody there is", Hours.lit(Hours.party("EaC0011"), 0).step(), 0);
        says("STATE: THE STEP is 20.");
        TallowHours late = Hours.party("EaaC0021");
        for (int i = 0; i < 20; i++) due("step from " + i, late.step(), 0);
        due("from 20", late.step(), STATE);
        due("again", late.step(), STATE);
        due("THE STEP", late.count(4), 20);
        late.undo();
        due("from 19 again", late.step(), 0);
    }

    private static void undoing() {
        promise(13);
        says("The last ACT is undone: how many are left.");
        TallowHours t = Hours.party("EaaC0021C0021Ga109");
        t.trim(1, 1);
        t.light(0);
        t.light(1);
        t.step();
        t.out(0);
        for (int left = 4; left >= 0; left--) {
            due("undo", t.undo(), left);
            due("in the row", t.count(8), left);
        }
        due("candles are as at first", t.candle(0, 3) + t.candle(1, 3) + 10 * t.candle(0, 1) + 10 * t.candle(1, 1), 40);
        due("one burnt down burns again", undoneLastInch(), 1);
        TallowHours unlike = allUnlike();
        allAreUnlike("ahead of all", unlike);
        due("lit", unlike.light(1) + unlike.undo(), 2 + 8);
        allAreUnlike("lit, undone", unlike);
        due("trimmed", unlike.trim(2, 1) + unlike.undo(), 1 + 8);
        allAreUnlike("trimmed, undone", unlike);
        due("out", unlike.out(0) + unlike.undo(), 2 + 8);
        allAreUnlike("out, undone", unlike);
        due("a step", unlike.step() + unlike.undo(), 15 + 8);
        allAreUnlike("a step, undone", unlike);
        TallowHours bare = Hours.stepped(new TallowHours(), 1);
        due("with no party told", bare.undo(), 0);
        due("THE STEP is 0 again", bare.count(4), 0);
        Hours.stepped(t, 17);
        due("of sixteen", t.undo(), 15);
        due("another act in its stead", t.step() + t.count(8), 16);
        says("STATE: there is none.");
        due("at first", new TallowHours().undo(), STATE);
        for (int i = 0; i < 16; i++) t.undo();
        due("sixteen are undone", t.undo(), STATE);
        due("the first is not", t.count(4), 1);
        TallowHours anew = Hours.party("EaC0011");
        anew.light(0);
        anew.party();
        due("behind a party", anew.undo(), STATE);
        anew.keep(0);
        anew.light(0);
        anew.again(0);
        due("behind again", anew.undo(), STATE);
        anew.light(1);
        due("a refused act is none", anew.undo(), STATE);
    }

    /** Every candle and every guest is elsewhere than the others, after 8 acts. */
    private static TallowHours allUnlike() {
        TallowHours t = Hours.party("EaaaaaaaaaaaaC0061C1022C0733C0554Ga109Ga119Ga129Ga139");
        t.trim(2, 1);
        Hours.lit(t, 0, 3).step();
        t.out(3);
        return Hours.stepped(t, 3);
    }

    private static void allAreUnlike(String what, TallowHours t) {
        int[][] candles = {{4, 2, 1, 1}, {10, 2, 2, 0}, {8, 2, 3, 0}, {6, 4, 4, 2}};
        for (int i = 0; i < 4; i++) {
            for (int c = 0; c < 4; c++) due(what + ", candle " + i + ", " + c, t.candle(i, c), candles[i][c]);
            due(what + ", guest " + i + " has HAD", t.guest(i, 4), 4 - i);
        }
        due(what + ", THE STEP", t.count(4), 4);
        due(what + ", COST", t.count(7), 4 * 1 + 1 * 4);
    }

    private static int undoneLastInch() {
        TallowHours t = Hours.stepped(Hours.lit(Hours.party("EaC0011Ga109"), 0), 1);
        t.undo();
        return t.candle(0, 3) + t.guest(0, 4) + t.count(7);
    }

    // ---- plans

    private static void plans() {
        promise(14);
        says("THE PLAN: what it costs; NONE.");
        due("nobody", new TallowHours().plan(), 0);
        due("guests without candles", Hours.party("EGa109").plan(), NONE);
        due("an inch", Hours.party("EaC0011Ga109").plan(), 1);
        due("the dearest", Hours.party("Eabcd-----C0069C0169C0269C0369Ga100Gb100Gc100Gd100").plan(), 216);
        TallowHours t = Hours.party("EaC0013C0011Ga209");
        due("both", t.plan(), 4);
        t.light(0);
        due("one burns: it costs no more", t.plan(), 1);
        t.step();
        due("it has burnt", t.plan(), 1);
        t.undo();
        t.undo();
        due("undone", t.plan(), 4);
        t.keep(0);
        t.light(0);
        t.out(0);
        due("out: it gives nothing", t.plan(), NONE);
        t.again(0);
        due("as it was kept", t.plan(), 4);
        t.trim(0, 1);
        due("a refused act changes no plan", t.plan(), 4);
        Hours.retold(t, "EaaC0023Ga109");
        due("another party", t.plan(), 6);
        t.trim(0, 1);
        due("trimmed", t.plan(), 3);
        t.wipe();
        due("wiped: THE PARTY stays", t.plan(), 3);
    }

    private static void plansOf() {
        promise(15);
        says("By it of a CANDLE: 0 to 6;");
        TallowHours t = Hours.party("EaC0019C0011Ga155");
        due("not lit", t.planOf(0), 0);
        due("the sixth", t.planOf(1), 6);
        t.step();
        due("then the fifth", t.planOf(1), 5);
        Hours.stepped(t, 4);
        due("then the first", t.planOf(1), 1);
        t.light(1);
        due("lit before", t.planOf(1), 0);
        TallowHours anew = Hours.party("EaC0011Ga155");
        due("of one party", anew.planOf(0), 6);
        Hours.retold(anew, "EaC0011");
        due("of another, that nobody is at", anew.planOf(0), 0);
        says("NONE: there is none.");
        t.out(1);
        t.step();
        due("it is too late", t.planOf(0), NONE);
        due("of one that is out", t.planOf(1), NONE);
        says("UNKNOWN.");
        for (int c : new int[] {-1, 2, 4, Hours.LEAST, Hours.MOST}) due("candle " + c + ", no plan", t.planOf(c), UNKNOWN);
        due("no candles, a plan", new TallowHours().planOf(0), UNKNOWN);
        due("of four a fifth", Hours.party(Hours.LONGEST).planOf(4), UNKNOWN);
    }

    private static void bars() {
        promise(16);
        says("BARS; NONE.");
        due("nobody", new TallowHours().bars(), NONE);
        for (int g = 0; g < 4; g++) {
            StringBuilder text = new StringBuilder("EaC0011");
            for (int i = 0; i < 4; i++) text.append(i == g ? "Gd109" : "Ga109");
            due("guest " + g, Hours.party(text.toString()).bars(), g);
        }
        TallowHours t = Hours.party("EaaC0021Ga100Ga200");
        due("two at one step", t.bars(), 1);
        t.step();
        due("step 0 has gone by", t.bars(), 0);
        t.undo();
        due("undone", t.bars(), 1);
        due("all can be", Hours.party("EaC0011Ga109Ga155").bars(), NONE);
    }

    private static void shares() {
        promise(17);
        says("SHARE.");
        TallowHours t = Hours.party("EabC0014C0112Ga109Gb109Gb109");
        due("a, above", t.share(0, true), 4);
        due("a, below", t.share(0, false), 1);
        due("b of two, above", t.share(1, true), 1);
        due("b of two, below", t.share(2, false), 1);
        // Three guests for one inch of 2.
        TallowHours third = Hours.party("EaC0012Ga109Ga109Ga109");
        due("a third of 2, above", third.share(2, true), 2);
        due("a third of 2, below", third.share(2, false), 3);
        says("UNKNOWN;");
        for (int g : new int[] {-1, 3, 4, Hours.LEAST, Hours.MOST}) {
            due("guest " + g, t.share(g, true), UNKNOWN);
            due("guest " + g + ", below", t.share(g, false), UNKNOWN);
        }
        due("nobody", new TallowHours().share(0, true), UNKNOWN);
        says("STATE.");
        t.light(0);
        t.out(0);
        for (int g = 0; g < 3; g++) due("no a can be had, guest " + g, t.share(g, true), STATE);
        due("nor below", t.share(2, false), STATE);
    }

    private static void tables() {
        promise(18);
        TallowHours t = Hours.party("EabcC0031C0121C0211");
        says("TABLE.");
        // abc, bc, c
        due("0 and 1", t.table(0, 1), 5);
        due("1 and 0", t.table(1, 0), 5);
        due("0 and 2", t.table(0, 2), 4);
        due("1 and 2", t.table(1, 2), 3);
        due("the most: twelve", Hours.party("EabcdabcdabcdC0061C0161").table(0, 1), 12);
        says("UNKNOWN: both;");
        for (int c : new int[] {-1, 3, 4, Hours.LEAST, Hours.MOST}) {
            due("the first is " + c, t.table(c, 0), UNKNOWN);
            due("the other is " + c, t.table(0, c), UNKNOWN);
            due("both are " + c, t.table(c, c), UNKNOWN);
        }
        says("OUTSIDE: both are one.");
        for (int c = 0; c < 3; c++) due("both are " + c, t.table(c, c), OUTSIDE);
    }

    private static void pairs() {
        promise(19);
        says("PAIRS.");
        due("no candles", new TallowHours().pairs(), 0);
        due("one", Hours.party("EabC0021").pairs(), 2);
        due("two", Hours.party("EabC0021C0021").pairs(), 2);
        due("three: ab, ab, b", Hours.party("EabC0021C0021C0111").pairs(), 5);
        due("four, the most", Hours.party("EabcdabcdabcdC0061C0161C0261C0361").pairs(), 24);
        TallowHours t = Hours.party("EabC0021C0021C0111");
        for (int c = 0; c < 3; c++) {
            t.light(c);
            due("left when " + c + " is lit", t.pairs(), new int[] {3, 1, 0}[c]);
        }
        t.undo();
        due("undone", t.pairs(), 1);
    }

    private static void judging() {
        promise(20);
        TallowHours t = Hours.party("EaaC0021Ga109");
        says("JUDGED; NONE.");
        due("lit, two steps", t.judge(3, 44), NONE);
        due("at place 0", t.judge(1, 4), 0);
        due("at place 1", t.judge(2, 1), 1);
        due("at place 7", Hours.party("EaaaaaaC0061Ga109").judge(8, 4444444), 7);
        says("OUTSIDE: n, row (0 or more, n figures at most).");
        refusedBut("n", OUTSIDE, 1, 8, n -> t.judge(n, 0));
        for (int n = 1; n <= 8; n++) {
            int more = 1;
            for (int i = 0; i < n; i++) more *= 10;
            due(n + " figures", t.judge(n, more - 1), 0);
            due("a figure more than " + n, t.judge(n, more), OUTSIDE);
            due("below 0, n " + n, t.judge(n, -1), OUTSIDE);
            due("far below 0, n " + n, t.judge(n, Hours.LEAST), OUTSIDE);
            due("far above, n " + n, t.judge(n, Hours.MOST), OUTSIDE);
        }
    }

    // ---- stubs, boxes

    private static void stubs() {
        promise(21);
        TallowHours t = Hours.party("Ed-dC0011C0021C0031");
        says("A STUB: CANDLES as bits (candles = true),");
        // d, d-, d-d
        due("d", t.stub(1, 4, true), 1 + 4);
        due("-", t.stub(1, 0, true), 2);
        due("d-d", t.stub(3, 404, true), 4);
        due("none", t.stub(2, 44, true), 0);
        says("at how many places (candles = false).");
        due("d", t.stub(1, 4, false), 2);
        due("-", t.stub(1, 0, false), 1);
        due("d-d", t.stub(3, 404, false), 1);
        due("none", t.stub(2, 44, false), 0);
        says("OUTSIDE: k, row (0 or more, k figures at most, 0 to 4 each).");
        for (boolean candles : new boolean[] {true, false}) {
            refusedBut("k", OUTSIDE, 1, 3, k -> t.stub(k, 0, candles));
            refusedBut("row of 1", OUTSIDE, 0, 4, row -> t.stub(1, row, candles));
            due("three figures of two", t.stub(2, 100, candles), OUTSIDE);
            due("four figures of three", t.stub(3, 1000, candles), OUTSIDE);
            due("below 0", t.stub(3, -1, candles), OUTSIDE);
            due("far below 0", t.stub(3, Hours.LEAST, candles), OUTSIDE);
            for (int row = 0; row <= 1000; row++) rowOfFigures(row, candles);
        }
    }

    private static void rowOfFigures(int row, boolean candles) {
        TallowHours t = Hours.party("Ed-dC0011");
        boolean fits = row % 10 <= 4 && row / 10 % 10 <= 4 && row <= 444;
        sheet.holds("row of 3, " + row, fits == (t.stub(3, row, candles) != OUTSIDE));
        sheet.holds("row of 2, " + row, (fits && row <= 44) == (t.stub(2, row, candles) != OUTSIDE));
    }

    private static void seeing() {
        promise(22);
        TallowHours t = Hours.party("Eabcd-");
        says("SEEN: a MOMENT (0 to 3: a GIFT, 4: corridor): how many are.");
        for (int m = 0; m <= 4; m++) due("moment " + m, t.see(m), m + 1);
        due("all are as they were seen", t.from(5), 1);
        says("OUTSIDE;");
        for (int m : new int[] {-1, 5, Hours.LEAST, Hours.MOST}) due("moment " + m, t.see(m), OUTSIDE);
        due("none of them was seen", t.count(9), 5);
        says("FULL: 6.");
        due("the sixth", t.see(0), 6);
        due("the seventh", t.see(0), FULL);
        due("they are six", t.count(9), 6);
    }

    private static void unseeing() {
        promise(23);
        says("Nothing is SEEN: how many were.");
        TallowHours t = Hours.party("Eab");
        due("none", t.unsee(), 0);
        Hours.seen(t, 3);
        due("one", t.unsee(), 1);
        due("nothing is seen", t.count(9), 0);
        due("from everywhere", t.from(1), 3);
        Hours.seen(t, 0, 0, 0, 0, 0, 0);
        due("six", t.unsee(), 6);
        due("again", t.unsee(), 0);
        due("one can be seen again", t.see(1), 1);
        due("and is the first", t.from(1), 2);
    }

    private static void froms() {
        promise(24);
        TallowHours t = Hours.party("Eababab");
        says("FROM, as bits.");
        due("nothing seen", t.from(1), 63);
        due("nothing seen, 6", t.from(6), 1);
        Hours.seen(t, 1);
        due("b", t.from(1), 2 + 8 + 32);
        due("b, 2", t.from(2), 2 + 8);
        due("b, 4", t.from(4), 2);
        due("b, 6", t.from(6), 0);
        due("no evening", Hours.seen(new TallowHours(), 4).from(1), 0);
        TallowHours twelve = Hours.party("Eaaaaaaaaaaad");
        due("the last of twelve", Hours.seen(twelve, 3).from(1), 1 << 11);
        says("OUTSIDE: l.");
        refusedBut("l", OUTSIDE, 1, 6, t::from);
    }

    private static void nexts() {
        promise(25);
        TallowHours t = Hours.party("Eab-ab");
        says("NEXT.");
        due("a of five, above", t.next(1, 0, true), 2);
        due("a of five, below", t.next(1, 0, false), 5);
        due("corridor of five, above", t.next(1, 4, true), 1);
        due("corridor of five, below", t.next(1, 4, false), 5);
        due("never, above", t.next(1, 3, true), 0);
        due("never, below", t.next(1, 3, false), 1);
        Hours.seen(t, 0);
        due("for certain, above", t.next(2, 1, true), 1);
        due("for certain, below", t.next(2, 1, false), 1);
        says("OUTSIDE: l, moment (0 to 4);");
        t.unsee();
        for (boolean upper : new boolean[] {true, false}) {
            for (int l : new int[] {0, -1, 7, Hours.LEAST, Hours.MOST}) due("l " + l, t.next(l, 0, upper), OUTSIDE);
            refusedBut("moment", OUTSIDE, 0, 4, moment -> t.next(1, moment, upper));
        }
        says("STATE.");
        due("longer than the evening", t.next(6, 0, true), STATE);
        Hours.seen(t, 0);
        due("burnt by then", t.next(1, 1, true), STATE);
        due("burnt by then, below", t.next(1, 1, false), STATE);
        Hours.seen(t, 1);
        due("more seen than it has", t.next(1, 1, true), STATE);
        Hours.seen(t, 3);
        due("from nowhere", t.next(6, 0, true), STATE);
        due("from nowhere, below", t.next(5, 0, false), STATE);
    }

    // ---- cut, draughts

    private static void cuts() {
        promise(26);
        TallowHours t = new TallowHours();
        says("CUT; NONE.");
        due("one", t.cut(9, 1, 9), 1);
        due("two of nine", t.cut(17, 2, 99), 2);
        due("two of nine in eighteen", t.cut(18, 2, 99), 1);
        due("an order too long", t.cut(8, 2, 98), NONE);
        due("all too long", t.cut(1, 6, 222222), NONE);
        says("OUTSIDE: n, k (1 to 6), orders (k figures, 1 to 9 each).");
        refusedBut("n", OUTSIDE, 1, 30, n -> t.cut(n, 1, 1));
        for (int k : new int[] {0, -1, 7, 8, 9, 10, Hours.LEAST, Hours.MOST}) due("k " + k, t.cut(30, k, 1111111), OUTSIDE);
        int ones = 0;
        for (int k = 1; k <= 6; k++) {
            int fewer = ones;
            ones = 10 * ones + 1;
            due(k + " ones", t.cut(30, k, ones), 1);
            due(k + " nines", t.cut(9, k, 9 * ones), k);
            due("a figure fewer than " + k, t.cut(30, k, fewer), OUTSIDE);
            due("a figure more than " + k, t.cut(30, k, 10 * ones + 1), OUTSIDE);
            due("a nought at the end of " + k, t.cut(30, k, ones - 1), OUTSIDE);
            due("below 0, k " + k, t.cut(30, k, -ones), OUTSIDE);
            due("far below 0, k " + k, t.cut(30, k, Hours.LEAST), OUTSIDE);
            due("far above, k " + k, t.cut(30, k, Hours.MOST), OUTSIDE);
        }
        due("a nought within", t.cut(30, 6, 110111), OUTSIDE);
    }

    private static void draughts() {
        promise(27);
        TallowHours t = Hours.party("EabadC0041C0111C0311");
        says("DRAUGHT.");
        // 8/10 + 512/1000
        due("two of a by 2 tenths, above", t.draught(0, 2, 0, true), 164);
        due("two of a by 2 tenths, below", t.draught(0, 2, 0, false), 125);
        due("no draught, above", t.draught(0, 0, 0, true), 2);
        due("no draught, below", t.draught(0, 0, 0, false), 1);
        due("it never burns, above", t.draught(0, 10, 0, true), 0);
        due("it never burns, below", t.draught(0, 10, 0, false), 1);
        says("UNKNOWN;");
        for (int c : new int[] {-1, 3, 4, Hours.LEAST, Hours.MOST}) due("candle " + c, t.draught(c, 0, 0, true), UNKNOWN);
        says("OUTSIDE: x, gift (0 to 3);");
        refusedBut("x", OUTSIDE, 0, 10, x -> t.draught(0, x, 0, true));
        refusedBut("gift", OUTSIDE, 0, 3, gift -> t.draught(0, 0, gift, false));
        says("STATE: it was lit.");
        Hours.lit(t, 0, 1, 2).out(1);
        t.step();
        due("it burns", t.draught(0, 1, 0, true), STATE);
        due("it is out", t.draught(1, 1, 0, true), STATE);
        due("it is burnt", t.draught(2, 1, 0, false), STATE);
    }

    private static void seeds() {
        promise(28);
        says("THE SEED is v: what it was.");
        TallowHours t = new TallowHours();
        long was = 0;
        for (long v : new long[] {1, -1, Long.MAX_VALUE, Long.MIN_VALUE, 1L << 32, Hours.FACTOR, 0, 9}) {
            due("seed " + v, t.seed(v), was);
            was = v;
        }
        t.night(1);
        due("a night drew from 9", t.seed(0), 9 * Hours.FACTOR + Hours.ADDEND);
        due("0", t.seed(0), 0);
    }

    private static void nights() {
        promise(29);
        says("A NIGHT.");
        TallowHours t = Hours.party("EaC0011C0011C0011C0011Ga109");
        due("whichever is lit", t.night(1), 1);
        due("and drew once", t.seed(0), Hours.ADDEND);
        due("nobody", new TallowHours().night(20), 0);
        TallowHours burning = Hours.lit(Hours.party("EaaaaaaC0061C0061C0061C0061Ga609"), 0, 1, 2, 3);
        due("all burn: six inches", burning.night(20), 6);
        due("four steps of them", burning.night(4), 4);
        says("OUTSIDE: m.");
        t.seed(3);
        for (int m : new int[] {0, -1, 21, Hours.LEAST, Hours.MOST}) due("m " + m, t.night(m), OUTSIDE);
        due("they drew nothing", t.seed(0), 3);
        for (int m = 1; m <= 20; m++) sheet.holds("m " + m + " is taken", t.night(m) >= 1);
    }

    // ---- slots

    private static void keeping() {
        promise(30);
        says("They are kept: THE STEP.");
        TallowHours t = Hours.party("EaaC0021Ga109");
        due("at step 0", t.keep(0), 0);
        t.light(0);
        t.step();
        due("at step 1", t.keep(1), 1);
        due("the row stays", t.count(8), 2);
        due("it can still be undone", t.undo(), 1);
        due("over what was kept", t.keep(1), 0);
        Hours.stepped(t, 20);
        due("at step 20", t.keep(0), 20);
        due("slot 1 is as the second time", t.again(1) + 10 * t.candle(0, 3), 10);
        says("UNKNOWN.");
        for (int slot : new int[] {-1, 2, Hours.LEAST, Hours.MOST}) due("slot " + slot, t.keep(slot), UNKNOWN);
    }

    private static void goingOn() {
        promise(31);
        says("They are as they were kept: THE STEP.");
        TallowHours t = Hours.party("EaaC0023C0021C0011C0011Ga109");
        t.trim(1, 1);
        Hours.lit(t, 0, 2).out(2);
        t.step();
        t.keep(1);
        Hours.stepped(t, 19);
        for (int round = 0; round < 2; round++) {
            due("again", t.again(1), 1);
            due("candle 0 burns, 1 inch", 10 * t.candle(0, 3) + t.candle(0, 1), 11);
            due("candle 1 is trimmed", 10 * t.candle(1, 3) + t.candle(1, 1), 1);
            due("candle 2 is out", 10 * t.candle(2, 3) + t.candle(2, 1), 21);
            due("candle 3 is whole", 10 * t.candle(3, 3) + t.candle(3, 1), 1);
            due("HAD", t.guest(0, 4), 1);
            due("COST", t.count(7), 3);
            due("ACTS", t.count(8), 0);
            Hours.lit(t, 1, 3).step();
        }
        for (int slot = 0; slot <= 1; slot++) {
            TallowHours unlike = allUnlike();
            unlike.keep(slot);
            Hours.stepped(Hours.lit(unlike, 1, 2), 2);
            due("all are otherwise by now, THE STEP", unlike.count(4), 6);
            due("slot " + slot, unlike.again(slot), 4);
            allAreUnlike("slot " + slot + " again", unlike);
        }
        says("UNKNOWN;");
        for (int slot : new int[] {-1, 2, Hours.LEAST, Hours.MOST}) due("slot " + slot, t.again(slot), UNKNOWN);
        says("STATE: none were kept.");
        due("the other slot", t.again(0), STATE);
        due("at first", new TallowHours().again(0), STATE);
        t.party();
        due("behind a party", t.again(1), STATE);
        t.keep(0);
        due("kept anew", t.again(0), 0);
    }

    private static void counts() {
        promise(32);
        says("0 letters of THE TEXT, 1 MOMENTS, 2 CANDLES, 3 GUESTS, 4 THE STEP, 5 those that burn (bits), 6 those that are CONTENT (bits), 7 COST, 8 ACTS in the row, 9 SEEN.");
        TallowHours t = new TallowHours();
        for (int what = 0; what <= 9; what++) due("at first, " + what, t.count(what), 0);
        t = Hours.party("EabcC0035C0111C0021Ga109Gb109Gc309Ga109");
        Hours.lit(t, 0, 2).step();
        t.light(1);
        Hours.seen(t, 0, 4);
        t.wipe();
        t.write('E');
        int[] want = {1, 3, 3, 4, 1, 7, 1 + 8, 6, 4, 2};
        for (int what = 0; what <= 9; what++) due("count " + what, t.count(what), want[what]);
        TallowHours most = Hours.party("EaaaaaaC0069C0069C0069C0069Ga109Ga109Ga109Ga109");
        Hours.stepped(Hours.lit(most, 0, 1, 2, 3), 1);
        due("all four burn", most.count(5), 15);
        due("all four are content", most.count(6), 15);
        Hours.stepped(most, 19);
        due("the most that they can cost", most.count(7), 216);
        due("the last step", most.count(4), 20);
        due("the longest row", most.count(8), 16);
        says("OUTSIDE.");
        TallowHours any = t;
        refusedBut("what", OUTSIDE, 0, 9, any::count);
    }
}
