/** Each promise by hand: ordinary inputs, the edges that the document names, wrong inputs. */
public final class PromiseTests {
    private static final int UNKNOWN = -1, OUTSIDE = -2, STATE = -3, FULL = -4, NONE = -9;
    private static int promise = 0;
    private static int wrong = 0;

    private static void due(String what, long got, long want) {
        if (got != want) {
            wrong++;
            System.out.println("promise " + promise + ": " + what + " answered " + got + ", due is " + want);
        }
    }

    private static TallowHours written(String text) {
        TallowHours t = new TallowHours();
        for (int i = 0; i < text.length(); i++) t.write(text.charAt(i));
        return t;
    }

    private static TallowHours partyOf(String text) {
        TallowHours t = written(text);
        due("fault of " + text, t.fault(), NONE);
        due("party of " + text + " is refused", t.party() < 0 ? 1 : 0, 0);
        return t;
    }

    private static void fault(String text, int want) { due("fault of \"" + text + "\"", written(text).fault(), want); }

    private static void fraction(String what, int above, int below, int wantAbove, int wantBelow) {
        due(what + ", upper", above, wantAbove);
        due(what + ", lower", below, wantBelow);
    }

    private static void share(String what, TallowHours t, int guest, int above, int below) {
        fraction("share of guest " + guest + ", " + what, t.share(guest, true), t.share(guest, false), above, below);
    }

    private static void next(TallowHours t, int l, int moment, int above, int below) {
        fraction("next " + moment + " of " + l, t.next(l, moment, true), t.next(l, moment, false), above, below);
    }

    private static void draught(TallowHours t, int candle, int x, int gift, int above, int below) {
        fraction("draught of " + candle + " by " + x + " for " + gift, t.draught(candle, x, gift, true), t.draught(candle, x, gift, false), above, below);
    }

    private static void plan(String what, TallowHours t, int cost, int... figures) {
        due("plan, " + what, t.plan(), cost);
        for (int c = 0; c < figures.length; c++) due("planOf " + c + ", " + what, t.planOf(c), figures[c]);
    }

    public static void main(String[] args) {
        anew();
        textAndFault();
        theParty();
        looks();
        acts();
        steps();
        undone();
        plans();
        barsAndShares();
        tables();
        judged();
        stubs();
        boxes();
        cuts();
        draughts();
        nights();
        slots();
        counts();
        System.out.println(wrong == 0 ? "promises: all answers are as due" : "promises: " + wrong + " answers are not as due");
        if (wrong != 0) System.exit(1);
    }

    private static void anew() {
        promise = 1;
        TallowHours t = new TallowHours();
        for (int what = 0; what <= 9; what++) due("count " + what, t.count(what), 0);
        due("moment", t.moment(0), NONE);
        due("candle", t.candle(0, 0), UNKNOWN);
        due("guest", t.guest(0, 0), UNKNOWN);
        due("plan", t.plan(), 0);
        due("undo", t.undo(), STATE);
        due("again", t.again(0), STATE);
        due("seed", t.seed(1), 0);
        due("fault", t.fault(), 0);
        due("party", t.party(), STATE);
    }

    private static void textAndFault() {
        promise = 2;
        TallowHours t = new TallowHours();
        due("write -1", t.write(-1), OUTSIDE);
        due("write 256", t.write(256), OUTSIDE);
        due("write 0", t.write(0), 1);
        due("write 255", t.write(255), 2);
        for (int i = 3; i <= 64; i++) due("write", t.write('E'), i);
        due("write the 65th", t.write('E'), FULL);
        due("write 256 as the 65th", t.write(256), OUTSIDE);
        due("length", t.count(0), 64);
        promise = 3;
        due("wipe", t.wipe(), 64);
        due("wipe again", t.wipe(), 0);
        due("write", t.write('E'), 1);
        promise = 4;
        due("fault behind a wipe", t.fault(), NONE);
        fault("", 0);
        fault("e", 0);
        fault("E", NONE);
        fault("EE", 1);
        fault("E-abcd", NONE);
        fault("Eabcdabcdabcd", NONE);
        fault("Eabcdabcdabcda", 13);
        fault("EC", 1);
        fault("EG", 2);
        fault("EaC", 3);
        fault("EaC0", 4);
        fault("EaC00", 5);
        fault("EaC001", 6);
        fault("EaC0019", NONE);
        fault("EaC0010", 6);
        fault("EaC001:", 6);
        fault("EaC000", 5);
        fault("EaC1", 3);
        fault("EaC01", 4);
        fault("EaaaaaaaaaaC1", 12);
        fault("EaaaaaaaaaaaC1", 14);
        fault("EaaaaaaaaaaaC1011", NONE);
        fault("EaaaaaaaaaaaC11", 14);
        fault("EaaaaaaaaaaaC102", 15);
        fault("EaaaaaaaaaaaaC2", 14);
        fault("EaaaaaaaaaaaaC1111", NONE);
        fault("EaaaaaaaaaaaaC12", 15);
        fault("EaaaaaaaaaaaaC0961", 16);
        fault("EaaaaaaaaaaaaC0067", NONE);
        fault("EaaaaaaaaaaaaC007", 16);
        fault("EGa100", NONE);
        fault("EGd699", NONE);
        fault("EG-", 2);
        fault("EGe", 2);
        fault("EGa0", 3);
        fault("EGa7", 3);
        fault("EGa1a", 4);
        fault("EGa154", 5);
        fault("EGa155", NONE);
        fault("EGa100a", 6);
        fault("EaGa100b", 7);
        fault("EaGa100C0011Ga100", NONE);
        fault("EGa100C", 6);
        fault("EGa100Ga100Ga100Ga100", NONE);
        fault("EGa100Ga100Ga100Ga100G", 21);
        fault("EaC0011C0011C0011C0011", NONE);
        fault("EaC0011C0011C0011C0011C", 22);
        fault("EaC0011C0011C0011C0011Ga100Ga100Ga100Ga100", NONE);
        fault("E\0", 1);
        fault("E" + (char) 255, 1);
    }

    private static void theParty() {
        promise = 5;
        TallowHours t = partyOf("EabC0012Ga109Gb109");
        due("party again", t.party(), 12);
        due("the text stays", t.count(0), 18);
        t.light(0);
        t.step();
        t.keep(0);
        t.see(1);
        t.seed(77);
        t.write('x');
        due("party of a fault", t.party(), STATE);
        due("a refused party changes nothing: step", t.count(4), 1);
        due("a refused party changes nothing: acts", t.count(8), 2);
        due("a refused party changes nothing: kept", t.again(0), 1);
        t.wipe();
        due("wipe leaves the party", t.count(2), 1);
        for (char c : "EabC0012Ga109Gb109".toCharArray()) t.write(c);
        t.step();
        due("party anew", t.party(), 12);
        due("step anew", t.count(4), 0);
        due("cost anew", t.count(7), 0);
        due("row anew", t.count(8), 0);
        due("candle anew", t.candle(0, 3), 0);
        due("had anew", t.guest(0, 4), 0);
        due("kept is gone", t.again(0), STATE);
        due("seen stays", t.count(9), 1);
        due("seed stays", t.seed(0), 77);
        t.wipe();
        t.write('E');
        due("E", t.party(), 0);
        due("no candle is left of the one before", t.candle(0, 0), UNKNOWN);
        due("the most", partyOf("EabcdabcdabcdC0011C0011C0011C0011Ga100Ga100Ga100Ga100").party(), 44);
    }

    private static void looks() {
        TallowHours t = partyOf("Edc-abC0137Gb209C0415Gd613");
        promise = 6;
        due("moment 0", t.moment(0), 3);
        due("moment 2", t.moment(2), 4);
        due("moment 4", t.moment(4), 1);
        due("moment 5", t.moment(5), NONE);
        due("moment -1", t.moment(-1), NONE);
        due("moment far off", t.moment(Integer.MAX_VALUE), NONE);
    }

    private static void acts() {
        promise = 7;
        TallowHours t = partyOf("Edc-abC0137Gb209C0415Gd613");
        due("place", t.candle(0, 0), 1);
        due("inches", t.candle(0, 1), 3);
        due("price", t.candle(0, 2), 7);
        due("never lit", t.candle(0, 3), 0);
        due("place of the second", t.candle(1, 0), 4);
        due("price of the second", t.candle(1, 2), 5);
        due("no third", t.candle(2, 0), UNKNOWN);
        due("none ahead", t.candle(-1, 9), UNKNOWN);
        due("what 4", t.candle(0, 4), OUTSIDE);
        due("what -1", t.candle(0, -1), OUTSIDE);
        promise = 8;
        int[] first = {1, 2, 0, 9, 0, 0};
        int[] second = {3, 6, 1, 3, 0, 0};
        for (int what = 0; what < 6; what++) {
            due("guest 0, " + what, t.guest(0, what), first[what]);
            due("guest 1, " + what, t.guest(1, what), second[what]);
        }
        due("guest 2", t.guest(2, 0), UNKNOWN);
        due("guest -1", t.guest(-1, -1), UNKNOWN);
        due("what 6", t.guest(0, 6), OUTSIDE);
        due("what -1", t.guest(0, -1), OUTSIDE);
        promise = 11;
        due("trim", t.trim(0, 1), 2);
        due("trimmed at its head", t.candle(0, 0), 2);
        due("trimmed is never lit", t.candle(0, 3), 0);
        due("trim all", t.trim(0, 2), STATE);
        due("trim more", t.trim(0, 5), STATE);
        due("trim 0", t.trim(0, 0), OUTSIDE);
        due("trim 6", t.trim(0, 6), OUTSIDE);
        due("trim none", t.trim(2, 0), UNKNOWN);
        due("trimmed costs nothing", t.count(7), 0);
        promise = 9;
        due("light a trimmed one", t.light(0), 1);
        due("light another", t.light(1), 2);
        due("light it again", t.light(1), STATE);
        due("light none", t.light(2), UNKNOWN);
        due("light -1", t.light(-1), UNKNOWN);
        due("it burns", t.candle(1, 3), 1);
        promise = 11;
        due("trim one lit", t.trim(0, 1), STATE);
        due("trim one lit, wrongly", t.trim(0, 6), OUTSIDE);
        promise = 10;
        due("out", t.out(0), 2);
        due("it is out", t.candle(0, 3), 2);
        due("its inches stay", t.candle(0, 1), 2);
        due("its next moment stays", t.candle(0, 0), 2);
        due("out again", t.out(0), STATE);
        due("light it for ever no more", t.light(0), STATE);
        due("out none", t.out(2), UNKNOWN);
        due("step", t.step(), 1);
        due("burnt down", t.candle(1, 3), 2);
        due("burnt down, place", t.candle(1, 0), NONE);
        due("burnt down, inches", t.candle(1, 1), 0);
        due("out one burnt", t.out(1), STATE);
        promise = 9;
        due("light one burnt", t.light(1), STATE);
        due("refused acts are none", t.count(8), 5);
    }

    private static void steps() {
        promise = 12;
        TallowHours t = partyOf("Eaab-C0031C0122Ga119Ga211Gb109Gc109");
        t.light(0);
        t.light(1);
        due("nobody is there yet", t.step(), 0);
        due("step is one more", t.count(4), 1);
        // Candle 0 gives its second a, candle 1 its b: the guests 0, 1 have had a, guest 2 its b.
        due("there from and to step 1", t.step(), 7);
        due("had", t.guest(0, 4), 1);
        due("b", t.step(), 4);
        due("two candles give once", t.guest(2, 4), 2);
        due("content and more", t.guest(2, 5), 1);
        due("not content", t.guest(1, 5), 0);
        due("cost", t.count(7), 3 * 1 + 2 * 2);
        TallowHours twice = partyOf("EaC0011C0011Ga109");
        twice.light(0);
        twice.light(1);
        due("two give it at once", twice.step(), 1);
        due("had once only", twice.guest(0, 4), 1);
        due("both cost", twice.count(7), 2);
        TallowHours corridor = partyOf("E-C0013Gd109");
        corridor.light(0);
        due("corridor gives nothing", corridor.step(), 0);
        due("corridor costs", corridor.count(7), 3);
        due("and is burnt", corridor.candle(0, 3), 2);
        TallowHours late = new TallowHours();
        for (int i = 0; i < 20; i++) due("step", late.step(), 0);
        due("step 20", late.step(), STATE);
        due("stays 20", late.count(4), 20);
    }

    private static void undone() {
        promise = 13;
        TallowHours t = partyOf("EabC0024Ga109");
        t.trim(0, 1);
        due("trim undone", t.undo(), 0);
        due("inches are back", t.candle(0, 1), 2);
        due("place is back", t.candle(0, 0), 0);
        t.light(0);
        t.step();
        t.out(0);
        due("out undone", t.undo(), 2);
        due("it burns", t.candle(0, 3), 1);
        due("step undone", t.undo(), 1);
        due("had", t.guest(0, 4), 0);
        due("cost", t.count(7), 0);
        due("step", t.count(4), 0);
        due("light undone", t.undo(), 0);
        due("never lit", t.candle(0, 3), 0);
        due("none", t.undo(), STATE);
        for (int i = 0; i < 20; i++) t.step();
        due("the row is full", t.count(8), 16);
        for (int i = 15; i >= 0; i--) due("undo", t.undo(), i);
        due("the first are forgotten", t.undo(), STATE);
        due("step", t.count(4), 4);
        t.light(0);
        due("again one", t.count(8), 1);
    }

    private static void plans() {
        promise = 14;
        TallowHours t = partyOf("Eab-cdC0032C0231Ga100Gc104");
        plan("two", t, 9, 1, 1);
        t.step();
        plan("guest 0 is gone", t, NONE, NONE, NONE);
        t.undo();
        plan("undone", t, 9, 1, 1);
        t.trim(0, 2);
        plan("nothing but corridor is left", t, NONE, NONE, NONE);
        promise = 15;
        due("planOf none", t.planOf(2), UNKNOWN);
        due("planOf -1", t.planOf(-1), UNKNOWN);
        due("planOf 4 of nobody", new TallowHours().planOf(4), UNKNOWN);
        plan("of like ones the first", partyOf("EaC0011C0011Ga109"), 1, 0, 1);
        plan("less cost ahead of figures", partyOf("EaC0011C0012Ga109"), 1, 1, 0);
        plan("the sixth", partyOf("EaC0011Ga155"), 1, 6);
        TallowHours seventh = partyOf("EaC0011Ga166");
        plan("the seventh", seventh, NONE, NONE);
        seventh.step();
        plan("from step 1 on", seventh, 1, 6);
        plan("all inches cost", partyOf("EabbC0033Ga109"), 9, 1);
        plan("two at one step give once", partyOf("EaC0011C0011Ga209"), 2, 1, 2);
        plan("nobody wants", partyOf("EaC0011"), 0, 0);
        TallowHours burning = partyOf("EaaC0021Ga209C0029");
        burning.light(0);
        burning.step();
        plan("those that burn burn on", burning, 0, 0, 0);
        burning.out(0);
        plan("one out gives no more", burning, 18, 0, 1);
        TallowHours trimmed = partyOf("EaaC0025Ga109");
        plan("whole", trimmed, 10, 1);
        trimmed.trim(0, 1);
        plan("trimmed", trimmed, 5, 1);
        trimmed.keep(0);
        trimmed.light(0);
        trimmed.step();
        plan("content", trimmed, 0, 0);
        trimmed.again(0);
        plan("gone on from", trimmed, 5, 1);
        plan("four", partyOf("EabcdC0011C0112C0213C0314Ga100Gb111Gc122Gd133"), 10, 1, 2, 3, 4);
    }

    private static void barsAndShares() {
        promise = 16;
        due("nobody", new TallowHours().bars(), NONE);
        due("the second", partyOf("EabC0021Ga109Gb209Ga209").bars(), 1);
        due("the first of two", partyOf("EabC0021Gc109Gb209").bars(), 0);
        TallowHours either = partyOf("EaC0011Ga100Ga111");
        due("each alone can be", either.bars(), NONE);
        due("not both", either.plan(), NONE);
        TallowHours had = partyOf("EaC0011Ga100");
        had.light(0);
        had.step();
        due("content already", had.bars(), NONE);
        promise = 17;
        due("no plan for all", either.share(0, true), STATE);
        due("no plan for all, below", either.share(1, false), STATE);
        due("no such guest", either.share(2, true), UNKNOWN);
        due("no guest -1", either.share(-1, true), UNKNOWN);
        TallowHours three = partyOf("EabC0021Ga109Gb109Gb109");
        for (int g = 0; g < 3; g++) share("three alike", three, g, 2, 3);
        TallowHours two = partyOf("EabC0011C0021Ga109Gb109");
        share("the cheap one", two, 0, 1, 2);
        share("the dear one", two, 1, 3, 2);
        TallowHours idle = partyOf("EaC0015Ga109Ga109");
        idle.light(0);
        share("it costs nothing more", idle, 0, 0, 1);
        share("alone", partyOf("EaC0017Ga109"), 0, 7, 1);
        TallowHours four = partyOf("EabcC0013C0114C0036Ga109Gb109Gc109Ga109");
        // Candle 0 gives a for 3, candle 1 b for 4, candle 2 all for 18: those with c pay it.
        // An a adds 3 if it comes ahead of the other a and of c (one order of three), b adds 4 ahead of c.
        share("four, a", four, 0, 1, 1);
        share("four, a too", four, 3, 1, 1);
        share("four, b", four, 1, 2, 1);
        share("four, c", four, 2, 14, 1);
    }

    private static void tables() {
        promise = 18;
        TallowHours t = partyOf("Eab-cdC0032C0231C0015C0219");
        due("table", t.table(0, 1), 4);
        due("the other way", t.table(1, 0), 4);
        due("one gift of both counts once", t.table(0, 2), 2);
        due("corridor is no gift", t.table(2, 3), 1);
        due("one", t.table(1, 1), OUTSIDE);
        due("unknown both", t.table(4, 4), UNKNOWN);
        due("unknown", t.table(0, 4), UNKNOWN);
        due("unknown -1", t.table(-1, 0), UNKNOWN);
        promise = 19;
        // a b - | - c d | a | - : the first two together give 4 and leave 1; 0 with 3 and 1 with 2 give 2 + 3.
        due("four", t.pairs(), 5);
        t.trim(0, 1);
        promise = 18;
        due("as they are now", t.table(0, 1), 3);
        t.light(1);
        t.step();
        t.out(1);
        due("one that is out, as it is", t.table(1, 2), 3);
        promise = 19;
        // b - | a | - are left.
        due("three", t.pairs(), 2);
        t.light(0);
        due("two", t.pairs(), 1);
        t.light(3);
        due("one", t.pairs(), 1);
        t.light(2);
        due("none", t.pairs(), 0);
        // ab | ab | -c | d-: the like ones give least together.
        due("four, apart", partyOf("Eab-cd-C0021C0021C0221C0421").pairs(), 6);
        due("no party", new TallowHours().pairs(), 0);
    }

    private static void judged() {
        promise = 20;
        TallowHours t = partyOf("EabC0021C0111Ga109Gb119");
        due("lit, two steps", t.judge(3, 44), NONE);
        due("nobody has had anything by the third", t.judge(4, 444), 3);
        due("a step ahead of all", t.judge(2, 40), 0);
        due("lit twice", t.judge(4, 401), 2);
        due("lit twice at the end", t.judge(3, 10), 2);
        due("0 then 0", t.judge(2, 0), 1);
        due("no such candle", t.judge(2, 2), 1);
        due("no such thing", t.judge(2, 5), 1);
        due("eight things", t.judge(8, 4444444), 3);
        due("n 0", t.judge(0, 0), OUTSIDE);
        due("n 9", t.judge(9, 0), OUTSIDE);
        due("row below 0", t.judge(1, -1), OUTSIDE);
        due("too many figures", t.judge(1, 10), OUTSIDE);
        due("eight figures", t.judge(8, 100000000), OUTSIDE);
        due("nothing is changed", t.count(4) + t.count(5) + t.count(8), 0);
        t.light(0);
        due("lit before", t.judge(1, 0), 0);
        due("burns on", t.judge(2, 44), NONE);
    }

    private static void stubs() {
        promise = 21;
        TallowHours t = partyOf("Eab-ab-abC0031C0021C0111C0161");
        // ab- | ab | b | b-ab-a
        due("b", t.stub(1, 2, true), 2 + 4);
        due("ab", t.stub(2, 12, true), 2);
        due("a", t.stub(1, 1, true), 8);
        due("-", t.stub(1, 0, true), 1);
        due("ab-", t.stub(3, 120, true), 1);
        due("-a", t.stub(2, 1, true), 8);
        due("-ab of no candle that is long enough", t.stub(3, 12, true), 0);
        due("places of b", t.stub(1, 2, false), 3);
        due("places of ab", t.stub(2, 12, false), 3);
        due("places of -ab", t.stub(3, 12, false), 2);
        due("places of b-", t.stub(2, 20, false), 2);
        due("places of d", t.stub(1, 4, false), 0);
        t.trim(1, 1);
        due("as they were told", t.stub(2, 12, true), 2);
        due("k 0", t.stub(0, 0, true), OUTSIDE);
        due("k 4", t.stub(4, 0, false), OUTSIDE);
        due("row -1", t.stub(1, -1, true), OUTSIDE);
        due("two figures of one", t.stub(1, 10, true), OUTSIDE);
        due("figure 5", t.stub(1, 5, true), OUTSIDE);
        due("figure 5 ahead", t.stub(3, 511, true), OUTSIDE);
        due("figure 9 within", t.stub(3, 191, false), OUTSIDE);
        due("444", t.stub(3, 444, false), 0);
        due("too short an evening", partyOf("Ea").stub(2, 11, false), 0);
    }

    private static void boxes() {
        promise = 24;
        TallowHours t = partyOf("Eabacab-a");
        due("nothing seen, 6", t.from(6), 7);
        due("nothing seen, 1", t.from(1), 255);
        due("from 0", t.from(0), OUTSIDE);
        due("from 7", t.from(7), OUTSIDE);
        promise = 25;
        next(t, 1, 0, 1, 2);
        next(t, 3, 0, 1, 2);
        next(t, 3, 4, 0, 1);
        next(t, 1, 4, 1, 8);
        promise = 22;
        due("see -1", t.see(-1), OUTSIDE);
        due("see 5", t.see(5), OUTSIDE);
        due("see a", t.see(0), 1);
        promise = 24;
        due("from a, 2", t.from(2), 1 + 4 + 16);
        due("from a, 4", t.from(4), 1 + 4 + 16);
        due("from a, 5", t.from(5), 1 + 4);
        promise = 25;
        next(t, 2, 1, 2, 3);
        next(t, 2, 2, 1, 3);
        next(t, 2, 0, 0, 1);
        due("burnt by then", t.next(1, 0, true), STATE);
        due("l 0", t.next(0, 0, true), OUTSIDE);
        due("l 7", t.next(7, 0, true), OUTSIDE);
        due("moment 5", t.next(1, 5, true), OUTSIDE);
        due("moment -1", t.next(1, -1, true), OUTSIDE);
        promise = 22;
        due("see b", t.see(1), 2);
        promise = 24;
        due("more is seen than it has", t.from(1), 0);
        due("all is seen", t.from(2), 1 + 16);
        promise = 25;
        next(t, 3, 4, 1, 2);
        due("burnt, below", t.next(2, 0, false), STATE);
        due("more seen than it has", t.next(1, 0, true), STATE);
        promise = 22;
        for (int i = 3; i <= 6; i++) due("see -", t.see(4), i);
        due("see the seventh", t.see(4), FULL);
        due("see the seventh, wrongly", t.see(5), OUTSIDE);
        promise = 25;
        due("from nowhere", t.next(6, 0, true), STATE);
        promise = 23;
        due("unsee", t.unsee(), 6);
        due("unsee again", t.unsee(), 0);
        due("all places again", t.from(1), 255);
    }

    private static void cuts() {
        promise = 26;
        TallowHours t = new TallowHours();
        due("one", t.cut(1, 1, 1), 1);
        due("two in one", t.cut(10, 2, 55), 1);
        due("two in two", t.cut(9, 2, 55), 2);
        due("not the first that fits", t.cut(10, 6, 443333), 2);
        due("six of one inch", t.cut(1, 6, 111111), 6);
        due("the longest", t.cut(30, 6, 999999), 2);
        due("too long", t.cut(8, 2, 19), NONE);
        due("n 0", t.cut(0, 1, 1), OUTSIDE);
        due("n 31", t.cut(31, 1, 1), OUTSIDE);
        due("k 0", t.cut(5, 0, 0), OUTSIDE);
        due("k 7", t.cut(30, 7, 1111111), OUTSIDE);
        due("orders 0", t.cut(5, 1, 0), OUTSIDE);
        due("orders -1", t.cut(5, 1, -1), OUTSIDE);
        due("too few figures", t.cut(5, 2, 1), OUTSIDE);
        due("too many figures", t.cut(5, 1, 11), OUTSIDE);
        due("a nought within", t.cut(5, 3, 101), OUTSIDE);
        due("a nought behind one too long", t.cut(5, 2, 90), OUTSIDE);
    }

    private static void draughts() {
        promise = 27;
        TallowHours t = partyOf("Eabacab-aC0061C0411");
        draught(t, 0, 0, 0, 3, 1);
        draught(t, 0, 10, 0, 0, 1);
        draught(t, 0, 0, 3, 0, 1);
        // 1/2 + 1/8 + 1/32; then b: 1/4 + 1/64.
        draught(t, 0, 5, 0, 21, 32);
        draught(t, 0, 5, 1, 17, 64);
        draught(t, 0, 1, 2, 6561, 10000);
        draught(t, 0, 9, 1, 10001, 1000000);
        t.trim(0, 2);
        draught(t, 0, 5, 0, 5, 8);
        due("x -1", t.draught(0, -1, 0, true), OUTSIDE);
        due("x 11", t.draught(0, 11, 0, true), OUTSIDE);
        due("gift -1", t.draught(0, 0, -1, true), OUTSIDE);
        due("gift 4", t.draught(0, 0, 4, true), OUTSIDE);
        due("no such", t.draught(2, 11, 0, true), UNKNOWN);
        t.light(0);
        due("lit", t.draught(0, 5, 0, true), STATE);
        due("lit, below", t.draught(0, 5, 0, false), STATE);
        due("lit, wrongly", t.draught(0, 11, 0, false), OUTSIDE);
    }

    private static void nights() {
        promise = 28;
        TallowHours t = partyOf("EaC0011C0011C0011C0011Ga109");
        due("at first", t.seed(Long.MIN_VALUE), 0);
        due("then", t.seed(Long.MAX_VALUE), Long.MIN_VALUE);
        due("then", t.seed(5), Long.MAX_VALUE);
        promise = 29;
        due("whichever is lit", t.night(1), 1);
        due("the seed goes on", t.seed(5), 5L * 6364136223846793005L + 1442695040888963407L);
        due("m 0", t.night(0), OUTSIDE);
        due("m 21", t.night(21), OUTSIDE);
        due("a refused one draws nothing", t.seed(5), 5);
        due("nothing else changes", t.count(4) + t.count(5) + t.count(6) + t.count(7) + t.count(8), 0);
        t.light(0);
        t.step();
        due("what was had before counts", t.night(1) >= 1 ? 1 : 0, 1);
        for (int i = 0; i < 17; i++) t.step();
        long x = 9;
        for (int i = 0; i < 2; i++) x = x * 6364136223846793005L + 1442695040888963407L;
        t.seed(9);
        due("two steps are left", t.night(20), 1);
        due("two were drawn", t.seed(9), x);
        t.step();
        t.step();
        due("step 20", t.night(3), 1);
        due("none is drawn", t.seed(0), 9);
    }

    private static void slots() {
        promise = 30;
        TallowHours t = partyOf("EabC0024C0119Ga109");
        due("keep -1", t.keep(-1), UNKNOWN);
        due("keep 2", t.keep(2), UNKNOWN);
        due("keep 0", t.keep(0), 0);
        t.light(0);
        t.trim(1, 1);
        t.step();
        due("keep 1", t.keep(1), 1);
        due("the row stays", t.count(8), 2);
        promise = 31;
        due("again 2", t.again(2), UNKNOWN);
        due("again -1", t.again(-1), UNKNOWN);
        due("again 0", t.again(0), 0);
        due("never lit", t.candle(0, 3), 0);
        due("whole", t.candle(0, 1), 2);
        due("nobody has had", t.guest(0, 4), 0);
        due("no cost", t.count(7), 0);
        due("the row is empty", t.undo(), STATE);
        due("again 1", t.again(1), 1);
        due("it burns", t.candle(0, 3), 1);
        due("place", t.candle(0, 0), 1);
        due("had", t.guest(0, 4), 1);
        due("cost", t.count(7), 4);
        t.step();
        due("what is kept stays", t.again(1), 1);
        due("its cost too", t.count(7), 4);
        due("none kept", new TallowHours().again(1), STATE);
    }

    private static void counts() {
        promise = 32;
        TallowHours t = partyOf("EabcC0035C0111Ga109Gb109Gc309");
        t.light(0);
        t.step();
        t.light(1);
        t.see(0);
        int[] want = {29, 3, 2, 3, 1, 3, 1, 5, 3, 1};
        for (int what = 0; what <= 9; what++) due("count " + what, t.count(what), want[what]);
        due("count 10", t.count(10), OUTSIDE);
        due("count -1", t.count(-1), OUTSIDE);
    }
}
