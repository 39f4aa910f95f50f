import java.util.ArrayList;
import java.util.List;
import java.util.NoSuchElementException;
import java.util.function.IntFunction;
import java.util.function.Supplier;

/** The boundary cases that the promises 1 to 13 name, a test for each sentence. */
public final class CallBoundaryTest {
    private static final Checks CHECKS = new Checks();
    private static final int[] PLAIN = Bench.plain();
    private static final int LOW = Integer.MIN_VALUE;
    private static final int HIGH = Integer.MAX_VALUE;

    public static void main(String[] args) {
        useOf512Calls();
        newHasNothing();
        sampleCounts();
        sampleNoNumber();
        sampleOutOfRange();
        sampleFull();
        linearFromNowOn();
        linearWas();
        encodeFrameGoes();
        encodeAtTheEnd();
        encodeSize();
        encodeTooFew();
        encodeNoRoom();
        encodeNoRoomChangesNothing();
        decodeKinds();
        decodeNoByte();
        decodeCut();
        outLatest();
        outWrongPlace();
        outNone();
        codeOfTheLatest();
        codeGreatestLevel();
        codeWeight();
        codeWithout();
        codeOthers();
        streamBytes();
        streamHowMany();
        streamNone();
        damageByte();
        damageWrongByte();
        damageNone();
        cutBytes();
        cutBelowZero();
        cutDecodedOnes();
        resetEmpties();
        resetAsAtFirst();
        resetInputAndBookStay();
        apartGreatest();
        apartNone();
        countEach();
        countSinceReset();
        countOthers();
        CHECKS.end();
    }

    private static void says(int promise, String words) {
        CHECKS.sentence("Promise " + promise, words);
    }

    private static void due(String what, Object got, Object want) {
        CHECKS.due(what, got, want);
    }

    private static void refused(String what, Class<? extends RuntimeException> e, Supplier<?> call) {
        CHECKS.dueThrow(what, e, call);
    }

    /** What can be asked of a forge without changing it, of the bytes the last ones: 77 calls at most. */
    private static List<Object> state(VoiceForge forge) {
        List<Object> all = new ArrayList<>();
        for (int what = 0; what <= 6; what++) {
            all.add(forge.count(what));
            all.add(forge.code(what));
        }
        int size = forge.stream(-1);
        all.add(size);
        for (int k = Math.max(0, size - 28); k < size; k++) {
            all.add(forge.stream(k));
        }
        for (int n = 0; n < 16; n++) {
            int at = n;
            all.add(Checks.answer(() -> forge.out(true, at)));
            all.add(Checks.answer(() -> forge.out(false, at)));
        }
        all.add(Checks.answer(forge::apart));
        return all;
    }

    /** The call is refused, and what can be asked for is as before. */
    private static void refusedWhole(String what, VoiceForge forge, Class<? extends RuntimeException> e,
            Supplier<?> call) {
        List<Object> before = state(forge);
        refused(what, e, call);
        due(what + ": nothing changes", state(forge), before);
    }

    /** As refusedWhole, for the call with each of these arguments. */
    private static void refusedEach(String what, VoiceForge forge, Class<? extends RuntimeException> e,
            IntFunction<?> call, int... arguments) {
        List<Object> before = state(forge);
        for (int argument : arguments) {
            refused(what + " " + argument, e, () -> call.apply(argument));
        }
        due(what + ": nothing changes", state(forge), before);
    }

    /** 28 frames by 18 calls each, 3 times reset, and 5 calls more. */
    private static void useOf512Calls() {
        CHECKS.sentence("What it is", "An object is used for at most 512 calls after it has been made");
        VoiceForge forge = new VoiceForge();
        for (int k = 0; k < 28; k++) {
            if (k > 0 && k % 8 == 0) {
                due("reset before frame " + k, forge.reset(), 112);
            }
            Bench.frame(forge, 16 + k);
            due("encode " + k, forge.encode(), 14);
            due("decode " + k, forge.decode(), 1);
        }
        due("508th", forge.count(2), 4);
        due("509th", forge.count(3), 4);
        due("510th", forge.stream(-1), 56);
        due("511th", forge.out(true, 0), 48.0);
        due("512th", forge.apart(), 0.0);
    }

    private static void newHasNothing() {
        says(1, "Nothing is there.");
        CHECKS.dueCounts("new", new VoiceForge(), 0, 0, 0, 0, 0, 0, 0);
        CHECKS.dueCodes("new", new VoiceForge(), 0, 0, 0, 0, 0, 0, 0);
        due("no byte", new VoiceForge().stream(-1), 0);
        due("nothing to reset", new VoiceForge().reset(), 0);
        due("nothing to cut", new VoiceForge().cut(0), 0);
        due("not linear", new VoiceForge().linear(true), false);
        refused("byte", IndexOutOfBoundsException.class, () -> new VoiceForge().stream(0));
        refused("damage", IndexOutOfBoundsException.class, () -> new VoiceForge().damage(0, 0));
        refused("encode", IllegalStateException.class, () -> new VoiceForge().encode());
        refused("decode", NoSuchElementException.class, () -> new VoiceForge().decode());
        refused("coder's", IndexOutOfBoundsException.class, () -> new VoiceForge().out(false, 0));
        refused("decoder's", IndexOutOfBoundsException.class, () -> new VoiceForge().out(true, 0));
        refused("apart", IllegalStateException.class, () -> new VoiceForge().apart());
        due("the first sample", new VoiceForge().sample(1), 1);
    }

    private static void sampleCounts() {
        says(2, "A SAMPLE comes to THE INPUT: how many.");
        VoiceForge forge = new VoiceForge();
        for (int n = 1; n <= 48; n++) {
            due("sample", forge.sample(-n), n);
        }
        forge.encode();
        due("behind what a frame left", forge.sample(0), 33);
    }

    private static void sampleNoNumber() {
        says(2, "IllegalArgumentException if it is no number");
        VoiceForge forge = new VoiceForge();
        refusedWhole("into the empty input", forge, IllegalArgumentException.class, () -> forge.sample(Double.NaN));
        refusedWhole("0 / 0", forge, IllegalArgumentException.class, () -> forge.sample(0.0 / 0.0));
        Bench.samples(forge, 48, 1);
        refusedWhole("into the full input", forge, IllegalArgumentException.class, () -> forge.sample(Double.NaN));
    }

    private static void sampleOutOfRange() {
        says(2, "or out of range");
        VoiceForge forge = new VoiceForge();
        due("lowest", forge.sample(-32768), 1);
        due("highest", forge.sample(32767), 2);
        due("between them", forge.sample(32766.999), 3);
        due("minus 0", forge.sample(-0.0), 4);
        due("next to 0", forge.sample(-Double.MIN_VALUE), 5);
        double[] wrong = {-32768.125, 32767.125, -32769, 32768, 1e300, -1e300, Double.MAX_VALUE,
            Double.POSITIVE_INFINITY, Double.NEGATIVE_INFINITY};
        for (double v : wrong) {
            refused("sample(" + v + ")", IllegalArgumentException.class, () -> forge.sample(v));
        }
        due("none of them came in", forge.count(0), 5);
        Bench.samples(forge, 43, 1);
        refused("into the full input", IllegalArgumentException.class, () -> forge.sample(32768));
    }

    private static void sampleFull() {
        says(2, "IllegalStateException with 48.");
        VoiceForge forge = new VoiceForge();
        Bench.samples(forge, 47, 100);
        due("the 48th", forge.sample(100), 48);
        refusedWhole("the 49th", forge, IllegalStateException.class, () -> forge.sample(100));
        refusedWhole("0 too", forge, IllegalStateException.class, () -> forge.sample(0));
        forge.encode();
        Bench.samples(forge, 15, 100);
        due("16 found room again", forge.sample(100), 48);
        refused("and no more", IllegalStateException.class, () -> forge.sample(100));
        due("reset leaves it full", forge.reset(), 14);
        refused("still no more", IllegalStateException.class, () -> forge.sample(100));
    }

    private static void linearFromNowOn() {
        says(3, "The BOOK of the CODER is LINEAR from now on, or DOUBLING");
        VoiceForge forge = Bench.coded(16);
        Bench.frame(forge, 16);
        forge.linear(true);
        due("what was coded stays", forge.stream(0), 21);
        forge.encode();
        due("what waited in the input is linear", forge.stream(14), 145);
        forge.linear(true);
        Bench.frame(forge, 16);
        forge.encode();
        due("linear goes on", forge.stream(28), 145);
        forge.linear(false);
        Bench.frame(forge, 16);
        forge.encode();
        due("doubling again", forge.stream(42), 21);
        forge.linear(true);
        double[] first = {16, 17, 17, 16};
        for (double y : first) {
            forge.decode();
            due("the decoder goes by the packet", forge.out(true, 0), y);
        }
    }

    private static void linearWas() {
        says(3, "whether it was LINEAR.");
        VoiceForge forge = new VoiceForge();
        due("at first, to doubling", forge.linear(false), false);
        due("doubling to linear", forge.linear(true), false);
        due("linear to linear", forge.linear(true), true);
        due("linear to doubling", forge.linear(false), true);
        due("doubling to doubling", forge.linear(false), false);
    }

    private static void encodeFrameGoes() {
        says(4, "A FRAME is coded, and goes out of THE INPUT");
        for (int more : new int[] {0, 1, 16, 31, 32}) {
            VoiceForge forge = new VoiceForge();
            Bench.even(forge, 0);
            for (int n = 0; n < more; n++) {
                forge.sample(n == 0 ? 24 : 0);
            }
            forge.encode();
            due(more + " more", forge.count(0), more);
            due(more + " more: the first 16", forge.out(false, 0), 0.0);
            Bench.samples(forge, Math.max(0, 16 - more), more == 0 ? 24 : 0);
            forge.encode();
            due(more + " more: those behind them", forge.out(false, 0), 24.0);
        }
    }

    private static void encodeAtTheEnd() {
        says(4, "its PACKET comes to the end of THE STREAM");
        VoiceForge forge = Bench.coded(16);
        Bench.silence(forge);
        Bench.frame(forge, 24);
        forge.encode();
        CHECKS.dueBytes("three packets", forge, 0, 21, 15, 15, 15, 15, 52, 36, 36, 36, 36, 36, 36, 36, 129,
            0, 21, 15, 15, 15, 15, 60, 36, 36, 36, 36, 36, 36, 36, 137);
        due("no more", forge.stream(-1), 29);
        forge.cut(20);
        Bench.silence(forge);
        due("behind a cut", forge.stream(9), 0);
        due("one more", forge.stream(-1), 10);
    }

    private static void encodeSize() {
        says(4, "how many BYTES the PACKET has.");
        VoiceForge forge = new VoiceForge();
        double[] first = {0, 1, 0.5, -32768, 0.999, 32767};
        int[] sizes = {1, 14, 1, 14, 1, 14};
        int all = 0;
        for (int k = 0; k < first.length; k++) {
            Bench.frame(forge, first[k]);
            due("of " + first[k], forge.encode(), sizes[k]);
            all += sizes[k];
            due("in all", forge.stream(-1), all);
        }
    }

    private static void encodeTooFew() {
        says(4, "IllegalStateException with less than 16 SAMPLES");
        VoiceForge forge = Bench.coded(16);
        refusedWhole("no sample", forge, IllegalStateException.class, forge::encode);
        for (int n = 1; n < 15; n++) {
            forge.sample(0);
            refused(n + " samples", IllegalStateException.class, forge::encode);
        }
        forge.sample(0);
        refusedWhole("15 samples", forge, IllegalStateException.class, forge::encode);
        forge.sample(0);
        due("16 samples", forge.encode(), 1);
        refused("none again", IllegalStateException.class, forge::encode);
        VoiceForge full = Bench.filled(120);
        Bench.samples(full, 15, 100);
        refusedWhole("15, and no room either", full, IllegalStateException.class, full::encode);
    }

    private static void encodeNoRoom() {
        says(4, "IndexOutOfBoundsException if it does not find room");
        for (int had = 104; had <= 120; had++) {
            VoiceForge forge = Bench.filled(had);
            Bench.frame(forge, 16);
            if (had <= 106) {
                due("14 behind " + had, Checks.answer(forge::encode), 14);
            } else {
                refused("14 behind " + had, IndexOutOfBoundsException.class, forge::encode);
            }
        }
        for (int had = 112; had <= 119; had++) {
            VoiceForge forge = Bench.filled(had);
            Bench.even(forge, 0);
            due("1 behind " + had, Checks.answer(forge::encode), 1);
        }
        VoiceForge full = Bench.filled(120);
        Bench.even(full, 0);
        refused("1 behind 120", IndexOutOfBoundsException.class, full::encode);
        for (int k = 0; k < 16; k++) {
            full.decode();
        }
        refused("decoded ones take their room still", IndexOutOfBoundsException.class, full::encode);
        full.reset();
        due("after reset there is room", full.encode(), 1);
    }

    /** A second forge goes the same way without the refused call; both must go on alike. */
    private static void encodeNoRoomChangesNothing() {
        says(4, "(nothing changes then)");
        VoiceForge forge = Bench.filled(107);
        VoiceForge other = Bench.filled(107);
        for (VoiceForge each : new VoiceForge[] {forge, other}) {
            each.decode();
            each.linear(true);
            Bench.even(each, 50);
            Bench.even(each, 0);
        }
        refusedWhole("of 14 bytes", forge, IndexOutOfBoundsException.class, forge::encode);
        refused("again", IndexOutOfBoundsException.class, forge::encode);
        for (VoiceForge each : new VoiceForge[] {forge, other}) {
            each.cut(1);
            due("room after a cut", each.encode(), 14);
            due("full", each.stream(-1), 120);
        }
        due("coded as if nothing had been", state(forge), state(other));
        refusedWhole("of 1 byte", other, IndexOutOfBoundsException.class, other::encode);
    }

    private static void decodeKinds() {
        says(5, "The next PACKET of THE STREAM is decoded: 0 SILENT, 1 by its codes, 2 MADE UP.");
        VoiceForge forge = Bench.holding(PLAIN, Bench.with(PLAIN, 13, 0));
        Bench.silence(forge);
        Bench.putByte(forge, 7);
        Bench.put(forge, PLAIN);
        int[] kinds = {1, 2, 0, 2, 1};
        for (int kind : kinds) {
            due("next", forge.decode(), kind);
        }
    }

    private static void decodeNoByte() {
        says(5, "NoSuchElementException if there is no BYTE more");
        VoiceForge empty = new VoiceForge();
        refusedWhole("at first", empty, NoSuchElementException.class, empty::decode);
        VoiceForge forge = Bench.holding(PLAIN);
        forge.decode();
        refusedWhole("all decoded", forge, NoSuchElementException.class, forge::decode);
        Bench.put(forge, PLAIN);
        forge.cut(14);
        refused("the rest cut off", NoSuchElementException.class, forge::decode);
        Bench.put(forge, PLAIN);
        due("one more", forge.decode(), 1);
        forge.reset();
        refusedWhole("after reset", forge, NoSuchElementException.class, forge::decode);
    }

    private static void decodeCut() {
        says(5, "IllegalStateException if it is CUT.");
        for (int left = 1; left <= 13; left++) {
            VoiceForge forge = Bench.holding(PLAIN, PLAIN);
            forge.decode();
            forge.cut(14 - left);
            refusedWhole(left + " left", forge, IllegalStateException.class, forge::decode);
        }
        VoiceForge forge = Bench.holding(PLAIN);
        forge.cut(1);
        refused("cut", IllegalStateException.class, forge::decode);
        Bench.putByte(forge, PLAIN[13]);
        due("with its last byte again", forge.decode(), 1);
    }

    private static void outLatest() {
        says(6, "SAMPLE n of those decoded latest (decoder true), or coded latest, as y.");
        VoiceForge forge = Bench.coded(16, 0, 0, 0, 0, 0, 0, 0, 0, 0, 0, 0, 0, 0, 0, 8);
        forge.decode();
        Bench.frame(forge, 32, 0, 0, 0, 0, 0, 0, 0, 0, 0, 0, 0, 0, 0, 0, -16);
        forge.encode();
        due("decoded, first", forge.out(true, 0), 16.0);
        due("decoded, last", forge.out(true, 15), 8.0);
        due("coded, first", forge.out(false, 0), 32.0);
        due("coded, last", forge.out(false, 15), -16.0);
        due("between", forge.out(false, 8), 0.0);
    }

    private static void outWrongPlace() {
        says(6, "IndexOutOfBoundsException if n is not 0 to 15");
        VoiceForge forge = Bench.coded(16);
        forge.decode();
        int[] wrong = {-1, 16, -16, 31, 32, LOW, HIGH};
        refusedEach("coder", forge, IndexOutOfBoundsException.class, n -> forge.out(false, n), wrong);
        refusedEach("decoder", forge, IndexOutOfBoundsException.class, n -> forge.out(true, n), wrong);
        VoiceForge empty = new VoiceForge();
        refused("coder, and none", IndexOutOfBoundsException.class, () -> empty.out(false, 16));
        refused("decoder, and none", IndexOutOfBoundsException.class, () -> empty.out(true, -1));
    }

    private static void dueNone(String what, VoiceForge forge, boolean decoder) {
        for (int n : new int[] {0, 7, 15}) {
            refused(what + " " + n, IndexOutOfBoundsException.class, () -> forge.out(decoder, n));
        }
    }

    private static void outNone() {
        says(6, "or there was none.");
        VoiceForge forge = new VoiceForge();
        dueNone("coder at first", forge, false);
        dueNone("decoder at first", forge, true);
        refused("too few", IllegalStateException.class, forge::encode);
        dueNone("coder, refused", forge, false);
        Bench.silence(forge);
        due("silence is some", forge.out(false, 15), 0.0);
        dueNone("decoder with a packet ahead", forge, true);
        forge.damage(0, 20);
        refused("cut", IllegalStateException.class, forge::decode);
        dueNone("decoder, refused", forge, true);
        forge.damage(0, 1);
        forge.decode();
        due("what is made up is some", forge.out(true, 15), 0.0);
        forge.reset();
        dueNone("coder after reset", forge, false);
        dueNone("decoder after reset", forge, true);
        Bench.silence(forge);
        forge.decode();
        due("silence is some, decoded", forge.out(true, 0), 0.0);
    }

    private static void codeOfTheLatest() {
        says(7, "Of the latest PACKET that was coded and not SILENT what 1 to 4: its CODES c, 0: its STEP CODE");
        VoiceForge forge = new VoiceForge();
        Bench.even(forge, 100);
        forge.encode();
        CHECKS.dueCodes("coded", forge, 8, 15, -1, 0, -1, 2, 65280);
        Bench.silence(forge);
        CHECKS.dueCodes("silence leaves them", forge, 8, 15, -1, 0, -1, 2, 65280);
        forge.damage(1, 3);
        forge.decode();
        CHECKS.dueCodes("damage and decoding leave them", forge, 8, 15, -1, 0, -1, 2, 65280);
        forge.cut(1);
        CHECKS.dueCodes("cut leaves them", forge, 8, 15, -1, 0, -1, 2, 65280);
        Bench.frame(forge, 24);
        forge.encode();
        CHECKS.dueCodes("the latest", forge, 5, 0, 0, 0, 0, 3, 0);
    }

    private static void codeGreatestLevel() {
        says(7, "5: its greatest LEVEL without sign");
        due("-4", Bench.coded(-32768, 0, 0, 0, 0, 24576).code(5), 4);
        due("3", Bench.coded(24576, 0, 0, 0, 0, -16384).code(5), 3);
        due("in the last sample", Bench.coded(0, 0, 0, 0, 0, 0, 0, 0, 0, 0, 0, 0, 0, 0, 0, -24).code(5), 3);
        VoiceForge flat = new VoiceForge();
        flat.linear(true);
        Bench.frame(flat, 0.49, 0, 0, 0, 0, -0.49, 0, 0, 0, 0, 0.49, 0, 0, 0, 0, -0.49);
        due("r(0) is 0.96", flat.encode(), 1);
        Bench.even(flat, 0.3);
        due("r(0) is 1.44", flat.encode(), 14);
        due("no level but 0", flat.code(5), 0);
    }

    private static void codeWeight() {
        says(7, "6: its a(1), times 65536, cut to an int.");
        VoiceForge forge = new VoiceForge();
        for (int n = 0; n < 16; n++) {
            forge.sample(n % 2 == 0 ? 100 : -100);
        }
        forge.encode();
        due("below 0", forge.code(6), -65280);
        due("above 0", Bench.coded(32767, 32767).code(6), 51200);
        due("far above 1, by codes 15, -15, 15 and -15",
            Bench.coded(1, 2, 2, 3, 3, 2, 2, 1, 0, 0, -1, -2, -2, -2, -2, -1).code(6), 234240);
        due("0", Bench.coded(16).code(6), 0);
    }

    private static void codeWithout() {
        says(7, "0 without one.");
        VoiceForge forge = new VoiceForge();
        CHECKS.dueCodes("at first", forge, 0, 0, 0, 0, 0, 0, 0);
        Bench.silence(forge);
        CHECKS.dueCodes("silence only", forge, 0, 0, 0, 0, 0, 0, 0);
        Bench.even(forge, 100);
        forge.encode();
        forge.reset();
        CHECKS.dueCodes("after reset", forge, 0, 0, 0, 0, 0, 0, 0);
        Bench.silence(forge);
        CHECKS.dueCodes("silence only, after reset", forge, 0, 0, 0, 0, 0, 0, 0);
    }

    private static void codeOthers() {
        says(7, "IllegalArgumentException for others.");
        int[] others = {-1, 7, 8, LOW, HIGH};
        VoiceForge empty = new VoiceForge();
        refusedEach("without one", empty, IllegalArgumentException.class, empty::code, others);
        VoiceForge forge = Bench.coded(16);
        refusedEach("code", forge, IllegalArgumentException.class, forge::code, others);
    }

    private static void streamBytes() {
        says(8, "BYTE k of THE STREAM");
        VoiceForge forge = Bench.filled(120);
        due("first", forge.stream(0), 21);
        due("last of the first packet", forge.stream(13), 129);
        forge.damage(119, 255);
        due("last", forge.stream(119), 255);
        forge.decode();
        due("decoded ones stay", forge.stream(0), 21);
    }

    private static void streamHowMany() {
        says(8, "with k = -1 how many.");
        VoiceForge forge = new VoiceForge();
        due("none", forge.stream(-1), 0);
        Bench.silence(forge);
        due("one", forge.stream(-1), 1);
        forge.decode();
        due("decoded ones count", forge.stream(-1), 1);
        due("full", Bench.filled(120).stream(-1), 120);
    }

    private static void streamNone() {
        says(8, "IndexOutOfBoundsException if there is none.");
        VoiceForge forge = new VoiceForge();
        refusedEach("empty", forge, IndexOutOfBoundsException.class, forge::stream, 0, -2, 119, 120, LOW, HIGH);
        Bench.put(forge, PLAIN);
        refusedEach("of 14", forge, IndexOutOfBoundsException.class, forge::stream,
            14, 15, -2, 119, 120, LOW, HIGH);
        forge.cut(1);
        refused("cut off", IndexOutOfBoundsException.class, () -> forge.stream(13));
        forge.reset();
        refused("after reset", IndexOutOfBoundsException.class, () -> forge.stream(0));
        VoiceForge full = Bench.filled(120);
        refused("behind the last of all", IndexOutOfBoundsException.class, () -> full.stream(120));
    }

    private static void damageByte() {
        says(9, "BYTE k of THE STREAM becomes b (0 to 255): what it was.");
        VoiceForge forge = Bench.filled(120);
        due("highest", forge.damage(0, 255), 21);
        due("lowest", forge.damage(0, 0), 255);
        due("what it was", forge.damage(0, 21), 0);
        due("the same", forge.damage(0, 21), 21);
        due("the last", forge.damage(119, 77), 0);
        due("is there", forge.stream(119), 77);
        due("none more", forge.stream(-1), 120);
        forge.decode();
        due("a decoded one", forge.damage(0, 33), 21);
        due("is changed", forge.stream(0), 33);
        due("but not decoded anew", forge.count(1), 14);
        VoiceForge one = Bench.holding(PLAIN);
        one.damage(7, 99);
        CHECKS.dueBytes("that one alone", one, 0, Bench.with(PLAIN, 7, 99));
    }

    private static void damageWrongByte() {
        says(9, "IllegalArgumentException for another b");
        VoiceForge forge = Bench.holding(PLAIN);
        int[] wrong = {-1, 256, 512, LOW, HIGH};
        refusedEach("b", forge, IllegalArgumentException.class, b -> forge.damage(0, b), wrong);
        refusedEach("no byte, and b", forge, IllegalArgumentException.class, b -> forge.damage(14, b), wrong);
    }

    private static void damageNone() {
        says(9, "IndexOutOfBoundsException if there is none.");
        VoiceForge forge = Bench.holding(PLAIN);
        refusedEach("byte", forge, IndexOutOfBoundsException.class, k -> forge.damage(k, 255),
            -1, 14, 119, 120, LOW, HIGH);
        forge.cut(1);
        refused("cut off", IndexOutOfBoundsException.class, () -> forge.damage(13, 0));
        VoiceForge full = Bench.filled(120);
        refused("behind the last of all", IndexOutOfBoundsException.class, () -> full.damage(120, 0));
    }

    private static void cutBytes() {
        says(10, "The last n BYTES of THE STREAM go: how many are left.");
        VoiceForge forge = Bench.holding(PLAIN, PLAIN);
        due("none", forge.cut(0), 28);
        due("one", forge.cut(1), 27);
        due("13 more", forge.cut(13), 14);
        CHECKS.dueBytes("the first ones stay", forge, 0, PLAIN);
        due("all", forge.cut(14), 0);
        due("none of none", forge.cut(0), 0);
        due("all of 120", Bench.filled(120).cut(120), 0);
    }

    private static void cutBelowZero() {
        says(10, "IllegalArgumentException if n is below 0");
        VoiceForge forge = Bench.holding(PLAIN);
        refusedEach("cut", forge, IllegalArgumentException.class, forge::cut, -1, -14, LOW);
    }

    private static void cutDecodedOnes() {
        says(10, "or beyond those that were not decoded.");
        VoiceForge forge = new VoiceForge();
        refused("one of none", IllegalArgumentException.class, () -> forge.cut(1));
        Bench.put(forge, PLAIN);
        refused("15 of 14", IllegalArgumentException.class, () -> forge.cut(15));
        Bench.put(forge, PLAIN);
        forge.decode();
        refusedEach("14 ahead, of 28", forge, IllegalArgumentException.class, forge::cut, 15, 28, 29, HIGH);
        due("all that were not decoded", forge.cut(14), 14);
        refusedWhole("one that was decoded", forge, IllegalArgumentException.class, () -> forge.cut(1));
        due("none", forge.cut(0), 14);
    }

    private static void resetEmpties() {
        says(11, "THE STREAM is empty; ... how many BYTES it had.");
        due("none", new VoiceForge().reset(), 0);
        VoiceForge forge = Bench.filled(120);
        forge.decode();
        due("120, decoded or not", forge.reset(), 120);
        due("empty", forge.stream(-1), 0);
        due("nothing is decoded of it", forge.count(1), 0);
        due("again", forge.reset(), 0);
        Bench.silence(forge);
        due("from its start on", forge.stream(0), 0);
        forge.cut(1);
        due("what was cut does not count", forge.reset(), 0);
    }

    /** Loud frames before: had anything stayed, what follows would not be as on a new object. */
    private static void resetAsAtFirst() {
        says(11, "DECODER and CODER are as at first");
        VoiceForge used = new VoiceForge();
        Bench.even(used, 30000);
        used.encode();
        used.decode();
        used.reset();
        due("nothing is there", state(used), state(new VoiceForge()));
        VoiceForge fresh = new VoiceForge();
        for (VoiceForge forge : new VoiceForge[] {used, fresh}) {
            Bench.even(forge, 96);
            forge.encode();
            forge.decode();
        }
        due("they go on alike", state(used), state(fresh));
        used.reset();
        Bench.putByte(used, 200);
        due("made up", used.decode(), 2);
        CHECKS.dueOut("of nothing", used, true, new double[16]);
    }

    private static void resetInputAndBookStay() {
        says(11, "(THE INPUT and the BOOK stay)");
        VoiceForge forge = new VoiceForge();
        Bench.frame(forge, 16);
        Bench.frame(forge, 34);
        Bench.frame(forge, 16);
        forge.linear(true);
        forge.reset();
        due("48 samples", forge.count(0), 48);
        due("linear", forge.count(6), 1);
        forge.encode();
        forge.encode();
        CHECKS.dueBytes("both as they were", forge, 14, 145, 15, 15, 15, 15, 8 * 6 + 4);
        forge.linear(false);
        forge.reset();
        due("16 samples", forge.count(0), 16);
        due("doubling", forge.linear(true), false);
    }

    private static void apartGreatest() {
        says(12, "the greatest difference of the 16 SAMPLES of both, latest ones.");
        for (int n = 0; n < 16; n++) {
            double[] up = new double[16];
            up[n] = 24;
            VoiceForge forge = Bench.coded(up);
            Bench.silence(forge);
            forge.decode();
            due("decoder above in sample " + n, forge.apart(), 24.0);
            forge.decode();
            due("both silent", forge.apart(), 0.0);
            Bench.frame(forge, up);
            forge.encode();
            due("coder above in sample " + n, forge.apart(), 24.0);
        }
        for (double least : new double[] {0.25, -0.25}) {
            VoiceForge forge = Bench.coded(4 * least, 0, 0, 0, 0, least, 0, 0, 0, 0, least);
            Bench.frame(forge, 4 * least);
            forge.encode();
            forge.decode();
            due("less than 1: " + least, forge.apart(), 0.5);
        }
        VoiceForge wide = Bench.holding(Bench.withSum(Bench.with(Bench.with(PLAIN, 0, 31), 1, 30), 5, 63));
        wide.decode();
        Bench.frame(wide, 0, -32768);
        wide.encode();
        due("from end to end", wide.apart(), 65535.0);
    }

    private static void apartNone() {
        says(12, "IllegalStateException if one has none.");
        VoiceForge forge = new VoiceForge();
        refusedWhole("neither has", forge, IllegalStateException.class, forge::apart);
        Bench.silence(forge);
        refusedWhole("the decoder has none", forge, IllegalStateException.class, forge::apart);
        forge.decode();
        due("both have", forge.apart(), 0.0);
        forge.reset();
        refusedWhole("after reset", forge, IllegalStateException.class, forge::apart);
    }

    private static void countEach() {
        says(13, "What 0: SAMPLES of THE INPUT, 1: BYTES of THE STREAM that were decoded, 2: PACKETS coded, "
            + "3: decoded, 4: of these SILENT, 5: MADE UP, 6: 1 if the BOOK is LINEAR");
        VoiceForge forge = Bench.filled(112);
        CHECKS.dueCounts("coded", forge, 0, 0, 8, 0, 0, 0, 0);
        for (int k = 0; k < 7; k++) {
            Bench.silence(forge);
        }
        Bench.putByte(forge, 7);
        forge.damage(13, 0);
        Bench.samples(forge, 48, 1);
        forge.linear(true);
        CHECKS.dueCounts("full", forge, 48, 0, 16, 0, 0, 0, 1);
        forge.decode();
        CHECKS.dueCounts("made up, 14 bytes", forge, 48, 14, 16, 1, 0, 1, 1);
        for (int k = 0; k < 7; k++) {
            forge.decode();
        }
        CHECKS.dueCounts("by their codes", forge, 48, 112, 16, 8, 0, 1, 1);
        forge.decode();
        CHECKS.dueCounts("silent", forge, 48, 113, 16, 9, 1, 1, 1);
        for (int k = 0; k < 7; k++) {
            forge.decode();
        }
        CHECKS.dueCounts("all, the last one made up", forge, 48, 120, 16, 16, 7, 2, 1);
    }

    private static void countSinceReset() {
        says(13, "(2 to 5 since the beginning or reset)");
        VoiceForge forge = Bench.holding(PLAIN);
        Bench.silence(forge);
        Bench.putByte(forge, 7);
        for (int k = 0; k < 3; k++) {
            forge.decode();
        }
        forge.sample(1);
        forge.linear(true);
        CHECKS.dueCounts("since the beginning", forge, 1, 16, 3, 3, 1, 1, 1);
        forge.reset();
        CHECKS.dueCounts("since reset", forge, 1, 0, 0, 0, 0, 0, 1);
        Bench.samples(forge, 15, 0);
        forge.encode();
        forge.decode();
        CHECKS.dueCounts("one packet since", forge, 0, 14, 1, 1, 0, 0, 1);
    }

    private static void countOthers() {
        says(13, "IllegalArgumentException for others.");
        VoiceForge forge = Bench.holding(PLAIN);
        refusedEach("count", forge, IllegalArgumentException.class, forge::count, -1, 7, 8, LOW, HIGH);
    }
}
