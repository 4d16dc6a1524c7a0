import java.math.BigInteger;
import java.util.List;

/** The document's section "Terms", sentence by sentence, in its order. */
public final class TermsTests {
    private static final int UNKNOWN = Hours.UNKNOWN, OUTSIDE = Hours.OUTSIDE, STATE = Hours.STATE, FULL = Hours.FULL, NONE = Hours.NONE;
    private static Sheet sheet;

    public static void main(String[] args) throws Exception {
        sheet = new Sheet("terms");
        sheet.section("Terms");
        refusals();
        refusedChangesNothing();
        fractions();
        theText();
        theEvening();
        candlesTold();
        guestsTold();
        faults();
        madeAnew();
        litOutTrimmed();
        aStep();
        guestsThere();
        actsInARow();
        contentAndCost();
        nothingIsChanged();
        figuresOfAPlan();
        endOfAPlan();
        thePlan();
        bars();
        shares();
        tables();
        pairs();
        judged();
        stubs();
        boxes();
        nextMoments();
        cuts();
        draughts();
        nights();
        slots();
        sheet.whole("Terms");
        sheet.end();
    }

    private static void says(String words) { sheet.says(words); }
    private static void due(String what, long got, long want) { sheet.due(what, got, want); }

    private static void share(String what, TallowHours t, int guest, int above, int below) {
        due(what + ", share of " + guest + ", above", t.share(guest, true), above);
        due(what + ", share of " + guest + ", below", t.share(guest, false), below);
    }

    private static void next(String what, TallowHours t, int l, int moment, int above, int below) {
        due(what + ", next " + moment + " of " + l + ", above", t.next(l, moment, true), above);
        due(what + ", next " + moment + " of " + l + ", below", t.next(l, moment, false), below);
    }

    private static void draught(TallowHours t, int candle, int x, int gift, int above, int below) {
        due("draught of " + candle + " by " + x + " for " + gift + ", above", t.draught(candle, x, gift, true), above);
        due("draught of " + candle + " by " + x + " for " + gift + ", below", t.draught(candle, x, gift, false), below);
    }

    private static void plan(String what, TallowHours t, int cost, int... figures) {
        due(what + ", plan", t.plan(), cost);
        for (int c = 0; c < figures.length; c++) due(what + ", planOf " + c, t.planOf(c), figures[c]);
    }

    // ---- refusals, fractions

    private static void refusals() {
        says("REFUSALS, of several the first that a call names: UNKNOWN (there is no such CANDLE, GUEST, SLOT), OUTSIDE (another number is not as told), STATE (as told), FULL.");
        TallowHours full = Hours.brimful();
        due("OUTSIDE ahead of FULL: a wrong letter to a full text", full.write(256), OUTSIDE);
        due("OUTSIDE ahead of FULL: a wrong moment to a full box", full.see(5), OUTSIDE);
        due("OUTSIDE ahead of STATE: l of a box that is burnt", full.next(7, 0, true), OUTSIDE);
        due("OUTSIDE ahead of STATE: moment of a box that is burnt", full.next(6, 5, true), OUTSIDE);
        due("OUTSIDE ahead of STATE: trim one lit by 6", full.trim(0, 6), OUTSIDE);
        due("OUTSIDE ahead of STATE: trim a short one by 6", full.trim(1, 6), OUTSIDE);
        due("OUTSIDE ahead of STATE: a draught of 11 tenths on one lit", full.draught(0, 11, 0, true), OUTSIDE);
        due("OUTSIDE ahead of STATE: a draught for gift 4 on one lit", full.draught(0, 0, 4, true), OUTSIDE);
        due("UNKNOWN ahead of OUTSIDE: trim", full.trim(2, 6), UNKNOWN);
        due("UNKNOWN ahead of OUTSIDE: candle", full.candle(2, 4), UNKNOWN);
        due("UNKNOWN ahead of OUTSIDE: guest", full.guest(1, 6), UNKNOWN);
        due("UNKNOWN ahead of OUTSIDE: table of one that is not there with itself", full.table(2, 2), UNKNOWN);
        due("UNKNOWN ahead of OUTSIDE: draught", full.draught(2, 11, 4, true), UNKNOWN);
        due("UNKNOWN ahead of STATE: share where no plan does", full.share(1, true), UNKNOWN);
        due("UNKNOWN ahead of STATE: again of no slot where none were kept", full.again(2), UNKNOWN);
        due("UNKNOWN ahead of NONE: planOf where there is no plan", full.planOf(2), UNKNOWN);
        due("OUTSIDE ahead of NONE: cut, a nought beside an order too long", full.cut(8, 2, 90), OUTSIDE);
        due("OUTSIDE ahead of a place: judge, a row too long whose first thing can not be", full.judge(1, 44), OUTSIDE);
    }

    private static void untouched(String what, TallowHours touched, TallowHours twin) {
        List<Long> found = Hours.all(touched);
        sheet.holds(what + " changes nothing", found.equals(Hours.all(twin)));
    }

    private static void refused(String what, Hours.Call call, long want) {
        TallowHours t = Hours.midst();
        due(what, call.of(t), want);
        untouched(what, t, Hours.midst());
    }

    private static void refusedChangesNothing() {
        says("What is refused changes nothing.");
        refused("write(-1)", t -> t.write(-1), OUTSIDE);
        refused("write(256)", t -> t.write(256), OUTSIDE);
        refused("party() of a fault", t -> t.party(), STATE);
        refused("candle(4, 0)", t -> t.candle(4, 0), UNKNOWN);
        refused("candle(0, 4)", t -> t.candle(0, 4), OUTSIDE);
        refused("guest(4, 0)", t -> t.guest(4, 0), UNKNOWN);
        refused("guest(0, 6)", t -> t.guest(0, 6), OUTSIDE);
        refused("light(4)", t -> t.light(4), UNKNOWN);
        refused("light(-1)", t -> t.light(-1), UNKNOWN);
        refused("light one out", t -> t.light(0), STATE);
        refused("light one burnt", t -> t.light(2), STATE);
        refused("out(4)", t -> t.out(4), UNKNOWN);
        refused("out one never lit", t -> t.out(1), STATE);
        refused("out one out", t -> t.out(0), STATE);
        refused("out one burnt", t -> t.out(2), STATE);
        refused("trim(4, 1)", t -> t.trim(4, 1), UNKNOWN);
        refused("trim(1, 0)", t -> t.trim(1, 0), OUTSIDE);
        refused("trim(1, 6)", t -> t.trim(1, 6), OUTSIDE);
        refused("trim(1, -1)", t -> t.trim(1, -1), OUTSIDE);
        refused("trim all that it has", t -> t.trim(1, 4), STATE);
        refused("trim one out", t -> t.trim(0, 1), STATE);
        refusedAsks();
        refusedAtTheBrim();
    }

    private static void refusedAsks() {
        refused("planOf(4)", t -> t.planOf(4), UNKNOWN);
        refused("share(4)", t -> t.share(4, true), UNKNOWN);
        refused("share where no plan does", t -> t.share(0, true), STATE);
        refused("table(0, 4)", t -> t.table(0, 4), UNKNOWN);
        refused("table(1, 1)", t -> t.table(1, 1), OUTSIDE);
        refused("judge(0, 0)", t -> t.judge(0, 0), OUTSIDE);
        refused("judge(1, 14)", t -> t.judge(1, 14), OUTSIDE);
        refused("stub(4, 0)", t -> t.stub(4, 0, true), OUTSIDE);
        refused("stub(1, 5)", t -> t.stub(1, 5, false), OUTSIDE);
        refused("see(5)", t -> t.see(5), OUTSIDE);
        refused("see(-1)", t -> t.see(-1), OUTSIDE);
        refused("from(0)", t -> t.from(0), OUTSIDE);
        refused("next(7, 0)", t -> t.next(7, 0, true), OUTSIDE);
        refused("next(2, 0) of a burnt one", t -> t.next(2, 0, true), STATE);
        refused("cut(0, 1, 1)", t -> t.cut(0, 1, 1), OUTSIDE);
        refused("draught(4, 0, 0)", t -> t.draught(4, 0, 0, true), UNKNOWN);
        refused("draught(1, 11, 0)", t -> t.draught(1, 11, 0, true), OUTSIDE);
        refused("draught of one out", t -> t.draught(0, 1, 0, true), STATE);
        refused("night(0)", t -> t.night(0), OUTSIDE);
        refused("night(21)", t -> t.night(21), OUTSIDE);
        refused("keep(2)", t -> t.keep(2), UNKNOWN);
        refused("keep(-1)", t -> t.keep(-1), UNKNOWN);
        refused("again(2)", t -> t.again(2), UNKNOWN);
        refused("again(1), never kept", t -> t.again(1), STATE);
        refused("count(10)", t -> t.count(10), OUTSIDE);
    }

    private static void refusedAtTheBrim() {
        TallowHours t = Hours.brimful();
        due("the 65th letter", t.write('E'), FULL);
        due("the seventh moment", t.see(1), FULL);
        due("step 20", t.step(), STATE);
        untouched("FULL, FULL, STATE", t, Hours.brimful());
        TallowHours bare = Hours.party("EaC0011");
        due("undo of no act", bare.undo(), STATE);
        untouched("undo of no act", bare, Hours.party("EaC0011"));
    }

    private static void fractions() {
        says("NONE is -9.");
        due("NONE", TallowHours.NONE, -9);
        due("a moment that is not there", new TallowHours().moment(0), -9);
        says("FRACTIONS are told above (upper = true), below (1 and more), in least terms;");
        share("2 for three guests", Hours.party("EabC0021Ga109Gb109Gb109"), 0, 2, 3);
        share("a whole number", Hours.party("EaC0017Ga109"), 0, 7, 1);
        share("nothing", Hours.lit(Hours.party("EaC0017Ga109"), 0), 0, 0, 1);
        TallowHours box = Hours.party("Eabab");
        next("2 of 4", box, 1, 0, 1, 2);
        next("0 of 4", box, 1, 3, 0, 1);
        next("4 of 4", Hours.party("Eaaaa"), 1, 0, 1, 1);
        draught(Hours.party("EaC0011"), 0, 5, 0, 1, 2);
        draught(Hours.party("EaC0011"), 0, 0, 0, 1, 1);
        draught(Hours.party("EaC0011"), 0, 10, 0, 0, 1);
        says("refusals of them are told likewise.");
        for (boolean upper : new boolean[] {true, false}) {
            TallowHours t = Hours.midst();
            due("share, UNKNOWN", t.share(4, upper), UNKNOWN);
            due("share, STATE", t.share(0, upper), STATE);
            due("next, OUTSIDE", t.next(0, 0, upper), OUTSIDE);
            due("next, STATE", t.next(2, 0, upper), STATE);
            due("draught, UNKNOWN", t.draught(4, 0, 0, upper), UNKNOWN);
            due("draught, OUTSIDE", t.draught(1, 0, 4, upper), OUTSIDE);
            due("draught, STATE", t.draught(2, 0, 0, upper), STATE);
        }
    }

    // ---- 1: the text, the party

    /** Behind the prefix these letters can come, and of all 256 no others. */
    private static void only(String prefix, String letters) {
        for (char c = 0; c <= 255; c++) {
            String what = "\"" + prefix + "\" and letter " + (int) c;
            int got = Hours.faultOf(prefix + c);
            if (letters.indexOf(c) < 0) due(what + ", fault", got, prefix.length());
            else sheet.holds(what + " can be", got == NONE || got == prefix.length() + 1);
        }
    }

    private static void theText() {
        says("THE TEXT is letters (64 at most).");
        TallowHours t = new TallowHours();
        for (int i = 1; i <= 64; i++) due("letter " + i, t.write(i % 2 == 0 ? 0 : 255), i);
        due("letter 65", t.write('E'), FULL);
        due("letters", t.count(0), 64);
        due("the first letter of all still counts", t.fault(), 0);
        says("A PARTY is a TEXT: E, then THE EVENING:");
        only("", "E");
        due("no letter", Hours.faultOf(""), 0);
        due("E alone", Hours.faultOf("E"), NONE);
        due("E twice", Hours.faultOf("EE"), 1);
    }

    private static void theEvening() {
        says("MOMENTS, none or more (12 at most, places from 0):");
        due("none", Hours.party("E").count(1), 0);
        due("none, place 0", Hours.party("E").moment(0), NONE);
        due("one", Hours.party("Ec").count(1), 1);
        TallowHours twelve = Hours.party("Edabcabcabcab");
        due("twelve", twelve.count(1), 12);
        due("place 0", twelve.moment(0), 3);
        due("place 11", twelve.moment(11), 1);
        due("place 12", twelve.moment(12), NONE);
        for (char c : "abcd-".toCharArray()) due("a thirteenth, " + c, Hours.faultOf("Edabcabcabcab" + c), 13);
        says("a to d (GIFTS 0 to 3), or - (corridor: nothing);");
        only("E", "abcd-G");
        only("Ea", "abcd-CG");
        TallowHours all = Hours.party("Eabcd-C0411Ga109Gb109Gc109Gd109");
        for (int place = 0; place <= 4; place++) due("moment " + place, all.moment(place), place);
        all.light(0);
        due("corridor gives nothing", all.step(), 0);
        says("then PARTS, none or more, numbered as they are told:");
        due("none", Hours.party("Eabcd-").count(2) + Hours.party("Eabcd-").count(3), 0);
        TallowHours mixed = Hours.party("EabGd109C0012Gc209C0113");
        due("candle 0", mixed.candle(0, 2), 2);
        due("candle 1", mixed.candle(1, 2), 3);
        due("guest 0", mixed.guest(0, 0), 3);
        due("guest 1", mixed.guest(1, 0), 2);
        due("a moment behind a part", Hours.faultOf("EaC0011a"), 7);
        due("an evening behind a part", Hours.faultOf("EGa100E"), 6);
    }

    private static void candlesTold() {
        says("Cttlp a CANDLE (4 at most)");
        due("four", Hours.party("EaC0011C0011C0011C0011").count(2), 4);
        due("a fifth", Hours.faultOf("EaC0011C0011C0011C0011C"), 22);
        due("a fifth behind a guest", Hours.faultOf("EaC0011C0011C0011C0011Ga100C0011"), 27);
        only("EaC0011C0011C0011C0011", "G");
        says("of l INCHES (1 to 6)");
        only("EabcdabcdabcdC00", "123456");
        due("1", Hours.party("EabcdabcdabcdC0011").candle(0, 1), 1);
        due("6", Hours.party("EabcdabcdabcdC0061").candle(0, 1), 6);
        says("from MOMENT tt on (two figures; it lies in THE EVENING whole),");
        due("in no evening", Hours.faultOf("EC"), 1);
        only("EaC", "0");
        only("EaC0", "0");
        only("EaC00", "1");
        only("EabcdabcdabC", "0");
        only("EabcdabcdabcC", "01");
        only("EabcdabcdabC0", "0123456789");
        only("EabcdabcdaC", "0");
        only("EabcdabcdaC0", "012345678");
        only("EabcdabcdabcC1", "0");
        only("EabcdabcdabcdC1", "01");
        only("EabcdabcdabcdC11", "1");
        only("EabcdabcdabcdC10", "12");
        only("EabcdabcdabcdC07", "12345");
        only("EabcdabcdabcdC06", "123456");
        due("two figures", Hours.party("EabcdabcdabcdC1111").candle(0, 0), 11);
        due("up to the evening's last moment", Hours.party("EabcdabcdabcdC0661").candle(0, 0), 6);
        due("one inch beyond it", Hours.faultOf("EabcdabcdabcdC0761"), 16);
        says("an INCH costs p (1 to 9)");
        only("EaC001", "123456789");
        due("1", Hours.party("EaC0011").candle(0, 2), 1);
        due("9", Hours.party("EaC0019").candle(0, 2), 9);
    }

    private static void guestsTold() {
        says("Gwnab a GUEST (4 at most)");
        due("four", Hours.party("EGa100Gb100Gc100Gd100").count(3), 4);
        due("a fifth", Hours.faultOf("EGa100Gb100Gc100Gd100G"), 21);
        due("a fifth behind a candle", Hours.faultOf("EaGa100Gb100Gc100Gd100C0011Ga100"), 27);
        only("EaGa100Gb100Gc100Gd100", "C");
        only("EGa100", "G");
        only("EaGa100", "CG");
        only("EaC0011C0011C0011C0011Ga100Ga100Ga100Ga100", "");
        says("that wants n (1 to 6) GIFTS of w (a to d),");
        only("EG", "abcd");
        only("EGa", "123456");
        due("d", Hours.party("EGd100").guest(0, 0), 3);
        due("1", Hours.party("EGa100").guest(0, 1), 1);
        due("6", Hours.party("EGa600").guest(0, 1), 6);
        says("there from STEP a (0 to 9) to STEP b (a to 9)");
        only("EGa1", "0123456789");
        String figures = "0123456789";
        for (int a = 0; a <= 9; a++) only("EGa1" + a, figures.substring(a));
        due("from 9 to 9", Hours.party("EGa199").guest(0, 2) + Hours.party("EGa199").guest(0, 3), 18);
        due("from 0 to 0", Hours.party("EGa100").guest(0, 2) + Hours.party("EGa100").guest(0, 3), 0);
    }

    private static void faults() {
        says("FAULT: the place of the first letter by which THE TEXT can be no PARTY, whatever came behind it");
        for (String tail : new String[] {"", "x", "E", "C0011", "Ga109", "0000000000"}) {
            due("X and " + tail, Hours.faultOf("X" + tail), 0);
            due("a candle in no evening and " + tail, Hours.faultOf("EC" + tail), 1);
            due("a candle behind the evening and " + tail, Hours.faultOf("EaC1" + tail), 3);
            due("a guest that goes ahead of coming and " + tail, Hours.faultOf("EGa154" + tail), 5);
            due("no price and " + tail, Hours.faultOf("EaC0010" + tail), 6);
        }
        due("the first of two", Hours.faultOf("EaC0010Gx"), 6);
        says("(its length set aside);");
        String sixtyFour = "Ea" + "C0011".repeat(4) + "Ga109".repeat(4) + "Ga109".repeat(4) + "Ga";
        due("64 letters of which 42 can be", Hours.faultOf(sixtyFour), 42);
        due("64 letters with a fault at the first part's end", Hours.faultOf("EaC0010" + "Ga109".repeat(11) + "Ga"), 6);
        due("64 moments", Hours.faultOf("E" + "a".repeat(63)), 13);
        says("its length, if it is only not at its end;");
        String longest = Hours.LONGEST;
        for (int n = 0; n <= longest.length(); n++) {
            boolean ends = n >= 1 && n <= 13 || n > 13 && (n - 13) % 5 == 0;
            due("the first " + n + " letters", Hours.faultOf(longest.substring(0, n)), ends ? NONE : n);
        }
        says("NONE: none.");
        due("E", Hours.faultOf("E"), NONE);
        due("the longest party", Hours.faultOf(longest), NONE);
        due("one letter more", Hours.faultOf(longest + "G"), 53);
        says("At first THE PARTY is E.");
        TallowHours t = new TallowHours();
        for (int what = 0; what <= 9; what++) due("count " + what, t.count(what), 0);
        due("THE TEXT is none", t.fault(), 0);
    }

    private static void madeAnew() {
        says("THE STEP is 0, no CANDLE is lit, nobody has HAD anything, when THE PARTY is made anew.");
        TallowHours t = Hours.party("EaaC0021C0021C0021Ga109");
        t.light(0);
        t.trim(1, 1);
        t.step();
        t.light(2);
        t.out(2);
        due("it was burning", t.count(5), 1);
        due("party", t.party(), 31);
        due("THE STEP", t.count(4), 0);
        due("none burns", t.count(5), 0);
        for (int c = 0; c < 3; c++) {
            due("never lit, " + c, t.candle(c, 3), 0);
            due("whole, " + c, t.candle(c, 1), 2);
            due("from its head, " + c, t.candle(c, 0), 0);
        }
        due("HAD", t.guest(0, 4), 0);
        due("CONTENT", t.count(6), 0);
        due("COST", t.count(7), 0);
    }

    // ---- 1: acts

    private static void litOutTrimmed() {
        says("LIT: a CANDLE that is whole or trimmed, never lit.");
        TallowHours t = Hours.party("EaaaC0031C0031C0011");
        due("whole", t.light(0), 1);
        t.trim(1, 2);
        due("trimmed", t.light(1), 2);
        due("one that burns", t.light(0), STATE);
        t.out(0);
        due("one that is out", t.light(0), STATE);
        t.step();
        due("one that is burnt", t.light(1), STATE);
        says("OUT: one that burns is put out, for ever.");
        due("never lit", t.out(2), STATE);
        t.light(2);
        due("it burns", t.out(2), 1);
        due("it is out", t.candle(2, 3), 2);
        due("out again", t.out(2), STATE);
        due("lit again", t.light(2), STATE);
        t.step();
        due("its inches stay", t.candle(2, 1), 1);
        due("burnt", t.out(1), STATE);
        says("TRIMMED: one never lit has k INCHES less at its head (fewer than it has).");
        TallowHours six = Hours.party("EabcdabC0061C0021C0011");
        due("all of 2", six.trim(1, 2), STATE);
        due("more than 2", six.trim(1, 3), STATE);
        due("1 of 1", six.trim(2, 1), STATE);
        due("5 of 6", six.trim(0, 5), 1);
        due("at its head", six.candle(0, 0), 5);
        due("the last inch", six.trim(0, 1), STATE);
        due("1 of 2", six.trim(1, 1), 1);
        six.light(1);
        due("lit", six.trim(1, 1), STATE);
    }

    private static void aStep() {
        says("A STEP: each CANDLE that burns gives its next MOMENT, and has an INCH less (without INCHES it burns no more);");
        TallowHours t = Hours.party("EabcdC0021C0211C0011Ga109Gb109Gc109Gd109");
        due("none burns", t.step(), 0);
        Hours.lit(t, 0, 1);
        due("a and c", t.step(), 1 + 4);
        due("an inch less", t.candle(0, 1), 1);
        due("its next moment", t.candle(0, 0), 1);
        due("it burns on", t.candle(0, 3), 1);
        due("without inches", t.candle(1, 1), 0);
        due("it burns no more", t.candle(1, 3), 2);
        due("no next moment", t.candle(1, 0), NONE);
        due("b alone", t.step(), 2);
        due("none burns any more", t.count(5), 0);
        due("nothing", t.step(), 0);
        due("never lit, whole", t.candle(2, 1), 1);
        says("Then THE STEP is one more (20 at most: then no STEP goes by).");
        TallowHours late = Hours.party("EaaC0021");
        for (int i = 1; i <= 19; i++) {
            due("step", late.step(), 0);
            due("THE STEP", late.count(4), i);
        }
        late.light(0);
        due("the twentieth", late.step(), 0);
        due("THE STEP", late.count(4), 20);
        due("no more", late.step(), STATE);
        due("THE STEP stays", late.count(4), 20);
        due("its inch stays", late.candle(0, 1), 1);
        due("acts but steps go on", late.out(0), 1);
    }

    private static void guestsThere() {
        says("each GUEST that is there at THE STEP and wants that GIFT has HAD it once more, once only, though two CANDLES give it.");
        TallowHours t = Hours.party("EaaaaaC0051Ga113Ga111Gb109Ga200");
        Hours.lit(t, 0);
        due("step 0: the first is not there yet", t.step(), 8);
        due("step 1: its first, the second's only one", t.step(), 1 + 2);
        due("step 2: the second has gone", t.step(), 1);
        due("step 3: its last", t.step(), 1);
        due("step 4: it has gone", t.step(), 0);
        due("had", t.guest(0, 4), 3);
        due("had by one of one step", t.guest(1, 4), 1);
        due("another gift", t.guest(2, 4), 0);
        TallowHours ends = Hours.party("EaC0011C0011Ga109Ga199");
        Hours.stepped(ends, 9).light(0);
        due("step 9 is the last of both", ends.step(), 3);
        ends.light(1);
        due("at step 10 nobody is there", ends.step(), 0);
        TallowHours two = Hours.party("EaaC0011C0111C0011C0011Ga309");
        Hours.lit(two, 0, 1, 2, 3);
        due("four give it", two.step(), 1);
        due("once only", two.guest(0, 4), 1);
        TallowHours both = Hours.party("EaC0011Ga109Ga109");
        both.light(0);
        due("one candle gives it to all", both.step(), 3);
    }

    private static void actsInARow() {
        says("ACTS (LIT, OUT, TRIMMED, STEPS) are a row (16 at most; of more the first one is forgotten);");
        TallowHours t = Hours.party("EaaC0021C0021Ga109");
        t.trim(1, 1);
        due("trimmed", t.count(8), 1);
        t.light(0);
        due("lit", t.count(8), 2);
        t.step();
        due("step", t.count(8), 3);
        t.out(0);
        due("out", t.count(8), 4);
        Hours.stepped(t, 12);
        due("sixteen", t.count(8), 16);
        t.light(1);
        due("the seventeenth", t.count(8), 16);
        for (int left = 15; left >= 0; left--) due("undone", t.undo(), left);
        due("the first is forgotten", t.undo(), STATE);
        due("so it stays trimmed", t.candle(1, 1), 1);
        due("the second is not", t.candle(0, 3), 0);
        says("the last one can be undone.");
        TallowHours each = Hours.party("EaaC0021Ga109");
        due("none", each.undo(), STATE);
        each.trim(0, 1);
        due("trimmed, undone", each.undo(), 0);
        due("inches", each.candle(0, 1), 2);
        due("place", each.candle(0, 0), 0);
        each.light(0);
        each.step();
        each.out(0);
        due("out, undone", each.undo(), 2);
        due("it burns", each.candle(0, 3), 1);
        due("a step, undone", each.undo(), 1);
        due("had, cost, step", each.guest(0, 4) + each.count(7) + each.count(4), 0);
        due("lit, undone", each.undo(), 0);
        due("never lit", each.candle(0, 3), 0);
        due("none is left", each.undo(), STATE);
        TallowHours late = Hours.stepped(new TallowHours(), 20);
        due("step 20, undone", late.undo(), 15);
        due("THE STEP", late.count(4), 19);
        due("it goes by again", late.step(), 0);
    }

    private static void contentAndCost() {
        says("CONTENT is a GUEST that has HAD as many as it wants, or more.");
        TallowHours t = Hours.party("EaaaC0031Ga209");
        t.light(0);
        t.step();
        due("fewer", t.guest(0, 5), 0);
        due("fewer, bits", t.count(6), 0);
        t.step();
        due("as many", t.guest(0, 5), 1);
        t.step();
        due("more", t.guest(0, 5), 1);
        due("more are had", t.guest(0, 4), 3);
        due("more, bits", t.count(6), 1);
        says("COST: of all INCHES that were burnt, each its price.");
        TallowHours c = Hours.party("Ea--aC0049C0032C0015");
        due("none", c.count(7), 0);
        c.trim(0, 2);
        due("trimmed ones are not burnt", c.count(7), 0);
        Hours.lit(c, 0, 1);
        due("lit is not burnt", c.count(7), 0);
        c.step();
        due("one of 9, one of 2 (corridor costs too)", c.count(7), 11);
        c.out(1);
        c.step();
        due("what is out burns no more", c.count(7), 20);
        c.step();
        due("nor what is burnt", c.count(7), 20);
    }

    // ---- 2: plans

    private static void nothingIsChanged() {
        says("In what follows nothing is changed.");
        TallowHours t = Hours.midst();
        t.plan();
        t.planOf(1);
        t.bars();
        t.share(0, true);
        t.table(0, 1);
        t.pairs();
        t.judge(3, 144);
        t.judge(8, 34434443);
        t.stub(2, 12, true);
        t.stub(2, 12, false);
        t.from(3);
        t.next(3, 2, true);
        t.cut(10, 3, 555);
        t.draught(1, 5, 0, true);
        untouched("each of them", t, Hours.midst());
        TallowHours does = Hours.party("EabC0021C0021Ga109Gb109");
        does.plan();
        does.share(1, false);
        does.judge(3, 44);
        untouched("where a plan does", does, Hours.party("EabC0021C0021Ga109Gb109"));
    }

    private static void figuresOfAPlan() {
        says("A PLAN: of each CANDLE never lit, whether it is not lit (0), or lit ahead of the first STEP from now on (1), the second one (2), .. the sixth one (6);");
        plan("nobody wants", Hours.party("EaC0011"), 0, 0);
        for (int step = 0; step <= 5; step++) plan("wanted at step " + step, Hours.party("EaC0011Ga1" + step + step), 1, step + 1);
        plan("wanted at step 6, which is the seventh", Hours.party("EaC0011Ga166"), NONE, NONE);
        plan("from step 3 on, wanted at 3", Hours.stepped(Hours.party("EaC0011Ga133"), 3), 1, 1);
        plan("from step 3 on, wanted at 8", Hours.stepped(Hours.party("EaC0011Ga188"), 3), 1, 6);
        plan("from step 3 on, wanted at 9", Hours.stepped(Hours.party("EaC0011Ga199"), 3), NONE, NONE);
        plan("from step 3 on, wanted at 2", Hours.stepped(Hours.party("EaC0011Ga122"), 3), NONE, NONE);
        says("those that burn burn on;");
        TallowHours burns = Hours.lit(Hours.party("EabC0029C0111Ga109Gb109"), 0);
        plan("it burns and gives all", burns, 0, 0, 0);
        burns.step();
        plan("and its last inch", burns, 0, 0, 0);
        burns.out(0);
        plan("it is out", burns, 1, 0, 1);
        TallowHours together = Hours.lit(Hours.party("EaC0011C0012Ga209"), 0);
        plan("not at the step of the one that burns", together, 2, 0, 2);
    }

    private static void endOfAPlan() {
        says("STEPS go by till nothing burns and nothing is to be lit (20 at most).");
        plan("the fifth inch of one lit ahead of the sixth", Hours.party("E----aC0051Ga199"), 5, 6);
        plan("the sixth inch of one lit ahead of the fifth", Hours.party("E-----aC0061Ga199"), 6, 5);
        plan("a gap in which nothing burns", Hours.party("EaC0011C0011Ga100Ga155"), 2, 1, 6);
        TallowHours late = Hours.stepped(Hours.party("EaaC0029Ga109C0011"), 19);
        plan("at step 19", late, NONE, NONE, NONE);
        late.light(0);
        late.step();
        plan("at step 20, one burns", late, NONE, NONE, NONE);
        TallowHours had = Hours.lit(Hours.party("EaaC0029Ga109"), 0);
        plan("content at step 20", Hours.stepped(had, 20), 0, 0);
        says("It DOES, if all GUESTS are CONTENT then.");
        plan("no guests, no candles", new TallowHours(), 0);
        plan("no guests", Hours.party("EaC0015"), 0, 0);
        plan("no candles", Hours.party("EaGa109"), NONE);
        plan("one of two", Hours.party("EaC0011Ga109Gb109"), NONE, NONE);
        plan("as many as they want, over some steps", Hours.party("EaabC0033Ga209"), 9, 1);
        plan("more than it wants", Hours.party("EaaaC0033Ga209"), 9, 1);
    }

    private static void thePlan() {
        says("THE PLAN: of those that DO that of which all INCHES of the CANDLES that are not 0 cost least;");
        plan("the second is cheaper by the inch, not in all", Hours.party("EabbC0015C0032Ga109"), 5, 1, 0);
        plan("two cheap ones for one dear", Hours.party("EabC0024C0011C0111Ga109Gb109"), 2, 0, 1, 1);
        TallowHours trimmed = Hours.party("E-aC0023C0114Ga109");
        plan("both inches of candle 0 cost more", trimmed, 4, 0, 1);
        trimmed.trim(0, 1);
        plan("trimmed, it costs less", trimmed, 3, 1, 0);
        TallowHours dear = Hours.party("EaaaaaaC0069C0069C0069C0069Ga609Ga155");
        plan("one for both", dear, 54, 0, 0, 0, 1);
        says("of like ones the first by CANDLES (as four figures, one to each CANDLE that there is, 0 for those lit before);");
        plan("0001 ahead of 0010", Hours.party("EaC0011C0011C0011C0011Ga109"), 1, 0, 0, 0, 1);
        plan("1 ahead of 2", Hours.party("EaC0011Ga109"), 1, 1);
        plan("01 ahead of 10, though candle 0 would come first", Hours.party("EaC0011C0011Ga139"), 1, 0, 4);
        plan("12 ahead of 21", Hours.party("EaC0011C0011Ga209"), 2, 1, 2);
        TallowHours before = Hours.party("EaC0011C0011C0011Ga309");
        before.light(1);
        plan("0 for one lit before", before, 2, 2, 0, 3);
        before.out(1);
        plan("0 for one that is out", before, NONE, NONE, NONE, NONE);
        says("NONE: none DOES.");
        plan("too many wanted", Hours.party("EaC0011Ga209"), NONE, NONE);
        plan("no such gift", Hours.party("E-C0011Ga109"), NONE, NONE);
    }

    private static void bars() {
        says("BARS: the first GUEST that is CONTENT by no PLAN; NONE.");
        due("nobody", new TallowHours().bars(), NONE);
        due("all can be", Hours.party("EabC0021Ga109Gb109").bars(), NONE);
        due("the first of all", Hours.party("EabC0021Gc109Gd109").bars(), 0);
        due("the last of four", Hours.party("EabC0021Ga109Gb109Ga109Ga209").bars(), 3);
        TallowHours either = Hours.party("EaC0011Ga100Ga111");
        due("each by some plan, not both by one", either.bars(), NONE);
        due("no plan though", either.plan(), NONE);
        either.step();
        due("the first has missed it", either.bars(), 0);
        TallowHours had = Hours.stepped(Hours.lit(Hours.party("EaC0011Ga100"), 0), 20);
        due("content already", had.bars(), NONE);
    }

    private static void shares() {
        says("SHARE of a GUEST: if GUESTS come one by one, in each order as likely, by how much in the mean the cost of THE PLAN for those that have come alone is more when it has come than it was: a FRACTION");
        share("alone", Hours.party("EaC0017Ga109"), 0, 7, 1);
        TallowHours alike = Hours.party("EaC0017Ga109Ga109Ga109Ga109");
        for (int g = 0; g < 4; g++) share("four alike", alike, g, 7, 4);
        // a alone costs 1, b alone 2 (candle 1 has both), both 2.
        TallowHours two = Hours.party("EabC0011C0021Ga109Gb109");
        share("the cheap one: 1 first, 0 second", two, 0, 1, 2);
        share("the dear one: 2 first, 1 second", two, 1, 3, 2);
        // One inch at one step: each alone 1, both need both candles: the second to come adds 3.
        TallowHours apart = Hours.party("EaC0011C0013Ga100Ga122");
        share("both need a candle: 1 first, 3 second", apart, 0, 2, 1);
        share("and the other likewise", apart, 1, 2, 1);
        share("content already", Hours.stepped(Hours.lit(Hours.party("EaC0017C0015Ga109Ga155"), 0), 1), 0, 0, 1);
        says("(STATE: no PLAN DOES for all).");
        TallowHours one = Hours.party("EaC0011Ga109Gb109");
        due("of the one that can be content", one.share(0, true), STATE);
        due("of the one that can not", one.share(1, false), STATE);
    }

    private static void tables() {
        says("TABLE of two CANDLES: how many unlike GIFTS both give, STEP by STEP, if they are lit at once, as they are now (at each STEP one that both give counts once).");
        TallowHours t = Hours.party("Eabcd-abC0061C0111C0521C0411");
        due("abcd-a and b: a, b at the first", t.table(0, 1), 6);
        due("the other way round", t.table(1, 0), 6);
        due("abcd-a and ab: like ones count once", t.table(0, 2), 5);
        due("corridor is no gift", t.table(1, 3), 1);
        due("corridor and an inch of a", t.table(2, 3), 2);
        t.trim(0, 1);
        due("trimmed: bcd-a and b", t.table(0, 1), 4);
        t.light(0);
        t.step();
        due("as it burns: cd-a and b", t.table(0, 1), 4);
        t.out(0);
        due("as it is out: cd-a and b", t.table(0, 1), 4);
        t.light(1);
        t.step();
        due("burnt: cd-a alone", t.table(0, 1), 3);
        due("the same gift at unlike steps counts twice", Hours.party("EaaC0021C0011").table(0, 1), 2);
        TallowHours burnt = Hours.stepped(Hours.lit(Hours.party("EaC0011C0011"), 0, 1), 1);
        due("both burnt", burnt.table(0, 1), 0);
    }

    private static void pairs() {
        says("PAIRS: CANDLES never lit put together two by two (one alone, if they are odd): the most that all TABLES (of one alone: its GIFTS) give together.");
        due("none", new TallowHours().pairs(), 0);
        due("one alone", Hours.party("Eaa-bC0041").pairs(), 3);
        due("one alone, of corridor", Hours.party("E-C0011").pairs(), 0);
        due("two", Hours.party("EabC0021C0021").pairs(), 2);
        // aa, ab, ba: only those two that are alike at no step give 4 together.
        due("three, the first alone", Hours.party("EaabaC0021C0121C0221").pairs(), 6);
        due("three, the second alone", Hours.party("EaabaC0121C0021C0221").pairs(), 6);
        due("three, the last alone", Hours.party("EaabaC0121C0221C0021").pairs(), 6);
        // With cc: aa must sit with cc.
        due("four: 0 with 1", Hours.party("EaabaccC0021C0421C0121C0221").pairs(), 8);
        due("four: 0 with 2", Hours.party("EaabaccC0021C0121C0421C0221").pairs(), 8);
        due("four: 0 with 3", Hours.party("EaabaccC0021C0121C0221C0421").pairs(), 8);
        due("four alike", Hours.party("EaC0011C0011C0011C0011").pairs(), 2);
        TallowHours t = Hours.party("EabcC0011C0111C0031C0211");
        due("four", t.pairs(), 6);
        t.trim(2, 2);
        due("trimmed: a, b, c, c", t.pairs(), 4);
        t.light(3);
        due("those lit are not among them", t.pairs(), 3);
        Hours.lit(t, 0, 1, 2);
        due("all are lit", t.pairs(), 0);
    }

    private static void judged() {
        says("JUDGED: n things (1 to 8) from now on, told as figures (0 to 3: that CANDLE is LIT; 4: a STEP): the place of the first that can not be, or a STEP by which nobody has HAD anything;");
        TallowHours t = Hours.party("EaaaaaaC0061C0011C0011C0011Ga109");
        due("n 0", t.judge(0, 0), OUTSIDE);
        due("n 1", t.judge(1, 3), NONE);
        due("n 8", t.judge(8, 1444444), NONE);
        due("n 8, the last can not be", t.judge(8, 4444444), 7);
        due("n 9", t.judge(9, 0), OUTSIDE);
        due("each candle is lit", t.judge(4, 3210), NONE);
        due("noughts ahead are candle 0: 0, 0", t.judge(2, 0), 1);
        due("noughts ahead are candle 0: 0, 4", t.judge(2, 4), NONE);
        due("figures 5 to 9 can not be", t.judge(1, 5), 0);
        due("figure 9 at the end", t.judge(3, 49), 2);
        due("a step by which nobody has anything", t.judge(1, 4), 0);
        due("lit twice", t.judge(3, 11), 2);
        due("the first of three that can not be", t.judge(3, 559), 0);
        due("of a candle that is not there", Hours.party("EaC0011").judge(2, 1), 1);
        due("one lit before", Hours.lit(t, 1).judge(1, 1), 0);
        due("it burns on", t.judge(1, 4), NONE);
        due("and is then burnt", t.judge(2, 44), 1);
        TallowHours late = Hours.party("EaC0011Ga109");
        Hours.stepped(late, 9);
        due("step 9", late.judge(2, 4), NONE);
        late.step();
        due("step 10: nobody is there", late.judge(2, 4), 1);
        Hours.stepped(late, 10);
        due("at step 20 a candle can be lit, no step goes by", late.judge(2, 4), 1);
        says("NONE: none.");
        due("all can be", Hours.party("EaC0011Ga109").judge(2, 4), NONE);
    }

    // ---- 3: stubs, boxes

    private static void stubs() {
        says("A STUB shows its last MOMENTS, k (1 to 3) figures told in order (0 corridor, else a GIFT and 1):");
        TallowHours t = Hours.party("Eabcd-aC0011C0031C0051C0151");
        // a | abc | abcd- | bcd-a
        due("k 0", t.stub(0, 0, true), OUTSIDE);
        due("k 4", t.stub(4, 1234, true), OUTSIDE);
        due("1: a", t.stub(1, 1, true), 1 + 8);
        due("3: c", t.stub(1, 3, true), 2);
        due("0: corridor", t.stub(1, 0, true), 4);
        due("4: d", t.stub(1, 4, false), 1);
        due("in order: 1 2 3", t.stub(3, 123, true), 2);
        due("not in order: 3 2 1", t.stub(3, 321, true), 0);
        due("a nought ahead: - a", t.stub(2, 1, true), 8);
        due("a nought behind: d -", t.stub(2, 40, true), 4);
        says("which CANDLES end so (bits, as they were told);");
        due("one too short for k", t.stub(2, 1, true), 8);
        due("as long as k", t.stub(3, 123, true), 2);
        t.trim(1, 2);
        t.light(3);
        Hours.stepped(t, 5);
        due("trimmed: as it was told", t.stub(3, 123, true), 2);
        due("burnt: as it was told", t.stub(2, 1, true), 8);
        due("none ends so", t.stub(1, 2, true), 0);
        due("all four", Hours.party("EaC0011C0011C0011C0011").stub(1, 1, true), 15);
        due("no candles", Hours.party("Ea").stub(1, 1, true), 0);
        says("at how many places of THE EVENING a stretch ends so.");
        due("as long as the evening", Hours.party("Eaaa").stub(3, 111, false), 1);
        due("longer than the evening", Hours.party("Eaa").stub(3, 111, false), 0);
        due("no evening", new TallowHours().stub(1, 0, false), 0);
        due("twelve, 1", Hours.party("Eaaaaaaaaaaaa").stub(1, 1, false), 12);
        due("twelve, 3", Hours.party("Eaaaaaaaaaaaa").stub(3, 111, false), 10);
        due("corridor", Hours.party("E---").stub(2, 0, false), 2);
        due("at the first places", Hours.party("Eabcc").stub(2, 12, false), 1);
        due("at the last places", Hours.party("Eccab").stub(2, 12, false), 1);
    }

    private static void boxes() {
        says("A BOX: a CANDLE of L INCHES (1 to 6) from somewhere in THE EVENING, as likely from each place;");
        TallowHours twelve = Hours.party("Eabcabcabcabc");
        due("L 0", twelve.from(0), OUTSIDE);
        due("L 1", twelve.from(1), 4095);
        due("L 6", twelve.from(6), 127);
        due("L 7", twelve.from(7), OUTSIDE);
        due("as long as the evening", Hours.party("Eabc").from(3), 1);
        due("longer than the evening", Hours.party("Eabc").from(4), 0);
        due("no evening", new TallowHours().from(1), 0);
        next("each place", twelve, 1, 0, 1, 3);
        next("each place where it lies whole", twelve, 6, 0, 3, 7);
        next("each place where it lies whole", twelve, 6, 1, 2, 7);
        says("it is SEEN burning: MOMENTS told one by one (6 at most).");
        TallowHours t = Hours.party("E-abcd-abcd");
        for (int i = 1; i <= 6; i++) due("moment " + i, t.see(i == 1 ? 4 : i == 6 ? 4 : i - 2), i);
        due("a seventh", t.see(0), FULL);
        due("they are six", t.count(9), 6);
        due("all six are so", t.from(6), 1);
        says("FROM: places (bits) from which it can be, so that all that is SEEN is so (no more than L);");
        due("six seen of five", t.from(5), 0);
        t.unsee();
        due("nothing seen", t.from(5), 63);
        t.see(0);
        due("a", t.from(5), 2);
        due("a, shorter", t.from(4), 2 + 64);
        t.see(1);
        due("ab, as many as L", t.from(2), 2 + 64);
        due("ab, more than L", t.from(1), 0);
        t.see(0);
        due("aba, nowhere", t.from(3), 0);
        due("the last place", Hours.seen(Hours.party("Eab"), 1).from(1), 2);
    }

    private static void nextMoments() {
        says("NEXT: how likely the next MOMENT is a GIFT (or corridor), by all these: a FRACTION");
        TallowHours t = Hours.seen(Hours.party("Eabacab-a"), 0);
        next("a b, a c, a b", t, 2, 1, 2, 3);
        next("a b, a c, a b", t, 2, 2, 1, 3);
        next("a b, a c, a b", t, 2, 3, 0, 1);
        next("corridor", Hours.seen(t, 1), 3, 4, 1, 2);
        next("only one place", Hours.seen(Hours.party("Eab"), 0), 2, 1, 1, 1);
        says("(STATE: it can be from nowhere, or it is burnt by then).");
        TallowHours none = new TallowHours();
        due("no evening", none.next(1, 0, true), STATE);
        due("longer than the evening", Hours.party("Eab").next(3, 0, true), STATE);
        due("not so seen", Hours.seen(Hours.party("Eab"), 2).next(2, 0, true), STATE);
        TallowHours burnt = Hours.seen(Hours.party("Eabc"), 0);
        due("one inch, one seen", burnt.next(1, 1, true), STATE);
        next("two inches, one seen", burnt, 2, 1, 1, 1);
        burnt.see(1);
        due("one inch, two seen", burnt.next(1, 2, true), STATE);
        due("two inches, two seen", burnt.next(2, 2, true), STATE);
        next("three inches, two seen", burnt, 3, 2, 1, 1);
    }

    // ---- 3: cut, draughts, nights, slots

    private static void cuts() {
        says("CUT: long candles of n INCHES (1 to 30) are cut for orders (1 to 6 figures, 1 to 9 each): how many long ones are needed at least;");
        TallowHours t = new TallowHours();
        due("n 0", t.cut(0, 1, 1), OUTSIDE);
        due("n 1", t.cut(1, 1, 1), 1);
        due("n 30", t.cut(30, 6, 999999), 2);
        due("n 31", t.cut(31, 1, 1), OUTSIDE);
        due("no figures", t.cut(9, 0, 0), OUTSIDE);
        due("one figure", t.cut(9, 1, 9), 1);
        due("six figures", t.cut(9, 6, 999999), 6);
        due("seven figures", t.cut(9, 7, 1111111), OUTSIDE);
        due("a figure 0", t.cut(9, 2, 10), OUTSIDE);
        due("just in one", t.cut(30, 6, 555555), 1);
        due("an inch too much for one", t.cut(30, 6, 555556), 2);
        due("three and three: 4 3 3 each", t.cut(10, 6, 443333), 2);
        due("the biggest first would need three", t.cut(12, 6, 653433), 2);
        due("the order they are told in does not count", t.cut(10, 6, 343343), 2);
        due("six of one inch", t.cut(1, 6, 111111), 6);
        says("NONE: an order is longer than they are.");
        due("as long", t.cut(5, 1, 5), 1);
        due("longer", t.cut(4, 1, 5), NONE);
        due("the last is longer", t.cut(8, 6, 111119), NONE);
        due("the first is longer", t.cut(8, 6, 911111), NONE);
        due("nine of nine", t.cut(9, 2, 19), 2);
    }

    private static void draughts() {
        says("DRAUGHT: a CANDLE never lit burns alone; ahead of each INCH it goes out by x tenths (0 to 10): the mean of all GIFTS of w that it gives: a FRACTION.");
        TallowHours t = Hours.party("EaaaaaaC0061C0011");
        due("x -1", t.draught(0, -1, 0, true), OUTSIDE);
        draught(t, 0, 0, 0, 6, 1);
        draught(t, 0, 10, 0, 0, 1);
        due("x 11", t.draught(0, 11, 0, true), OUTSIDE);
        // .9 + .81 + .729 + .6561 + .59049 + .531441; .1 + .01 + .001 + .0001 + .00001 + .000001
        draught(t, 0, 1, 0, 4217031, 1000000);
        draught(t, 0, 9, 0, 111111, 1000000);
        // 1/2 + .. + 1/64
        draught(t, 0, 5, 0, 63, 64);
        draught(t, 0, 1, 1, 0, 1);
        draught(t, 1, 9, 0, 1, 10);
        t.trim(0, 5);
        draught(t, 0, 9, 0, 1, 10);
        t.light(1);
        draught(t, 0, 9, 0, 1, 10);
        due("lit", t.draught(1, 9, 0, true), STATE);
        TallowHours last = Hours.party("E-----dC0061");
        draught(last, 0, 9, 3, 1, 1000000);
        draught(last, 0, 8, 3, 1, 15625);
    }

    /** Which candle a seed draws, by numbers without bounds. */
    private static int drawn(BigInteger seed) { return seed.shiftRight(33).mod(BigInteger.valueOf(4)).intValue(); }

    private static BigInteger stirred(BigInteger seed) {
        BigInteger factor = BigInteger.valueOf(Hours.FACTOR), addend = BigInteger.valueOf(Hours.ADDEND);
        return seed.multiply(factor).add(addend).mod(BigInteger.ONE.shiftLeft(64));
    }

    private static void nights() {
        says("A NIGHT by THE SEED: m STEPS (1 to 20; at STEP 20 it ends, nothing more is drawn),");
        for (int steps = 0; steps <= 20; steps += 5) {
            for (int m : new int[] {1, 5, 19, 20}) {
                TallowHours t = Hours.stepped(Hours.party("EaC0011Ga109"), steps);
                t.night(m);
                BigInteger want = BigInteger.ZERO;
                for (int i = 0; i < Math.min(m, 20 - steps); i++) want = stirred(want);
                due(m + " from step " + steps + ", the seed behind it", t.seed(0), want.longValue());
            }
        }
        TallowHours edge = Hours.party("EaC0011Ga109");
        due("m 0", edge.night(0), OUTSIDE);
        due("m 21", edge.night(21), OUTSIDE);
        due("neither drew", edge.seed(0), 0);
        says("ahead of each x (THE SEED, a long; 0 at first) becomes x times 6364136223846793005 and 1442695040888963407 (64 bits, wrapping); its upper 31 bits by 4, what is left: that CANDLE is LIT, if it can be:");
        due("at first", new TallowHours().seed(1), 0);
        for (long seed : new long[] {0, 1, 2, 3, 5, 77, -1, Long.MAX_VALUE, Long.MIN_VALUE, 1L << 33, 1L << 62, -77}) seedDraws(seed);
        drawnBefore();
        counted();
        says("(Nothing changes but THE SEED.)");
        TallowHours t = Hours.midst(), twin = Hours.midst();
        t.night(20);
        t.night(1);
        BigInteger behind = BigInteger.valueOf(77);
        for (int i = 0; i < 19; i++) behind = stirred(behind);
        due("THE SEED", t.seed(77), behind.longValue());
        untouched("a night, but for the seed,", t, twin);
    }

    private static void seedDraws(long seed) {
        BigInteger x = stirred(BigInteger.valueOf(seed).mod(BigInteger.ONE.shiftLeft(64)));
        for (int gift = 0; gift < 4; gift++) {
            TallowHours t = Hours.party("EabcdC0011C0111C0211C0311G" + (char) ('a' + gift) + "100");
            t.seed(seed);
            due("seed " + seed + ", is candle " + gift + " drawn", t.night(1), drawn(x) == gift ? 1 : 0);
            due("seed " + seed + " becomes", t.seed(0), x.longValue());
        }
    }

    /** A seed whose next n draws are these. */
    private static long seedFor(int... draws) {
        for (long seed = 0; seed < 100000; seed++) {
            BigInteger x = BigInteger.valueOf(seed);
            boolean so = true;
            for (int i = 0; so && i < draws.length; i++) {
                x = stirred(x);
                so = drawn(x) == draws[i];
            }
            if (so) return seed;
        }
        throw new IllegalStateException("no seed draws so");
    }

    private static void drawnBefore() {
        TallowHours t = Hours.party("EaaC0011C0111Ga109");
        t.seed(seedFor(2, 3, 3));
        due("no such candle is drawn: steps go by without", t.night(3), 0);
        t.seed(seedFor(0, 0, 1));
        due("one that is burnt is not lit again", t.night(3), 2);
        Hours.lit(t, 1).out(1);
        t.seed(seedFor(1, 1));
        due("one that is out is not lit again", t.night(2), 0);
        TallowHours whole = Hours.party("EaaaC0031Ga109");
        whole.seed(seedFor(0, 0, 0));
        due("one that burns burns on", whole.night(3), 3);
    }

    private static void counted() {
        says("how many GIFTS all GUESTS have HAD then, together.");
        TallowHours t = Hours.party("EaaC0021Ga109Ga109Gb109");
        t.seed(seedFor(0, 1, 1));
        due("two guests, two inches", t.night(3), 4);
        t.light(0);
        t.step();
        t.seed(seedFor(1));
        due("with what they have had before", t.night(1), 4);
        TallowHours late = Hours.stepped(Hours.lit(Hours.party("EaC0011Ga109"), 0), 20);
        due("at step 20: what they have had", late.night(20), 1);
    }

    private static void slots() {
        says("SLOTS 0 to 1 keep CANDLES, what was HAD, COST, THE STEP");
        TallowHours t = Hours.party("EaaC0025C0024C0011Ga109");
        due("slot -1", t.keep(-1), UNKNOWN);
        due("slot 0", t.keep(0), 0);
        t.trim(1, 1);
        t.light(0);
        t.step();
        due("slot 1", t.keep(1), 1);
        due("slot 2", t.keep(2), UNKNOWN);
        t.step();
        t.light(2);
        t.out(2);
        due("slot 1 again", t.again(1), 1);
        due("it burns", t.candle(0, 3), 1);
        due("its inches", t.candle(0, 1), 1);
        due("its place", t.candle(0, 0), 1);
        due("trimmed", t.candle(1, 1), 1);
        due("never lit", t.candle(2, 3), 0);
        due("HAD", t.guest(0, 4), 1);
        due("COST", t.count(7), 5);
        due("THE STEP", t.count(4), 1);
        due("slot 0 again", t.again(0), 0);
        due("whole", t.candle(1, 1), 2);
        due("nothing was HAD", t.guest(0, 4), 0);
        due("no COST", t.count(7), 0);
        due("THE STEP", t.count(4), 0);
        says("(THE ROW of ACTS is empty when one goes on).");
        t.step();
        due("one act", t.count(8), 1);
        due("again", t.again(1), 1);
        due("none", t.count(8), 0);
        due("none to undo", t.undo(), STATE);
        t.step();
        due("a new one", t.undo(), 0);
        due("back to what was kept", t.count(4), 1);
    }
}
