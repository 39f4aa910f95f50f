import java.util.NoSuchElementException;

/** The boundary cases that 'Terms' names for THE STREAM and for DECODING, a test for each sentence. */
public final class DecodingBoundaryTest {
    private static final Checks CHECKS = new Checks();
    private static final int[] PLAIN = Bench.plain();
    private static final int[] LOWEST_AND_HIGHEST_MARKS = {16, 31, 144, 159};

    /** Code 1 is 8, so that a(1) is a half; all levels are 0 but the last, which makes its sample 12. */
    private static final int[] HALVING = Bench.summed(20, 23, 15, 15, 15, 36, 36, 36, 36, 36, 36, 36, 39, 0);

    public static void main(String[] args) {
        streamHasRoomFor120();
        packetsStandOneBehindTheOther();
        memoryOfTheDecoder();
        zeroIsSilent();
        marks();
        codesNotAbove30();
        levelsNotAbove63();
        sumMustBeRight();
        sumWrapsAround();
        bookOfThePacket();
        samplesAreClipped();
        damagedFirstByte();
        damagedElsewhere();
        cutPackets();
        cutIsLookedAtFirst();
        cutDecodesNothing();
        madeUpByTheLatestWeights();
        madeUpNotByOthers();
        madeUpWithoutWeights();
        madeUpClipped();
        CHECKS.end();
    }

    private static void says(String words) {
        CHECKS.sentence("Promise 5, DECODING", words);
    }

    private static void due(String what, Object got, Object want) {
        CHECKS.due(what, got, want);
    }

    /** What decode answers for the packet, and how many bytes it takes. */
    private static void dueKind(String what, int kind, int size, int... packet) {
        VoiceForge forge = Bench.holding(packet);
        due(what, Checks.answer(forge::decode), kind);
        due(what + ": bytes", forge.count(1), size);
    }

    private static void streamHasRoomFor120() {
        CHECKS.sentence("Promise 4, THE STREAM", "THE STREAM is a row of at most 120 BYTES");
        VoiceForge forge = Bench.filled(120);
        due("120", forge.stream(-1), 120);
        Bench.even(forge, 0);
        CHECKS.dueThrow("no 121st", IndexOutOfBoundsException.class, forge::encode);
        for (int k = 0; k < 16; k++) {
            due("packet " + k, forge.decode(), k < 8 ? 1 : 0);
        }
        due("decoded to the end", forge.count(1), 120);
        CHECKS.dueThrow("nothing behind it", NoSuchElementException.class, forge::decode);
    }

    private static void packetsStandOneBehindTheOther() {
        CHECKS.sentence("Promise 5, THE STREAM", "with PACKETS one behind the other, and how far it was decoded");
        VoiceForge forge = Bench.filled(14);
        Bench.silence(forge);
        Bench.put(forge, HALVING);
        int[] sizes = {14, 1, 14};
        int far = 0;
        for (int size : sizes) {
            due("before", forge.count(1), far);
            forge.decode();
            far += size;
            due("behind", forge.count(1), far);
            due("the bytes stay", forge.stream(-1), 29);
        }
        CHECKS.dueBytes("HALVING", forge, 15, HALVING);
    }

    /** The first packet's last four are 3, 2, 1 and -4; of the second one weight alone is a half, all levels 0. */
    private static void memoryOfTheDecoder() {
        says("MEMORY, the last 4 SAMPLES of theirs, the latest first, 0 at first.");
        int[] ending = Bench.summed(18, 15, 15, 15, 15, 36, 36, 36, 36, 36, 36, 8 * 7 + 6, 8 * 5 + 0, 0);
        double[][] told = {{-2, -1, -0.5, -0.25}, {0.5, -2, 0.25, -1}, {1, 0.5, -2, 0.5}, {1.5, 1, 0.5, -2, 0.75}};
        for (int i = 1; i <= 4; i++) {
            int[] half = Bench.withSum(Bench.with(PLAIN, 5, 36), i, 23);
            VoiceForge forge = Bench.holding(ending, half);
            forge.decode();
            forge.decode();
            CHECKS.dueOut("a(" + i + ")", forge, true, told[i - 1]);
            VoiceForge first = Bench.holding(half);
            first.decode();
            CHECKS.dueOut("a(" + i + "), 0 at first", first, true, new double[16]);
        }
    }

    private static void zeroIsSilent() {
        says("BYTE 0: SILENT, 16 SAMPLES 0.");
        VoiceForge forge = Bench.holding(HALVING, Bench.with(PLAIN, 0, 0), HALVING);
        forge.decode();
        due("silent, whatever stands behind", forge.decode(), 0);
        CHECKS.dueOut("silent", forge, true, new double[16]);
        CHECKS.dueCounts("one byte alone", forge, 0, 15, 3, 2, 1, 0, 0);
        VoiceForge after = Bench.holding(HALVING);
        Bench.silence(after);
        Bench.put(after, Bench.withSum(Bench.with(PLAIN, 5, 36), 1, 23));
        for (int k = 0; k < 3; k++) {
            after.decode();
        }
        CHECKS.dueOut("the memory is 0 too", after, true, new double[16]);
    }

    private static void marks() {
        says("A BYTE 16 to 31, or 144 to 159: the four, eight BYTES and the sum");
        for (int first = 1; first < 256; first++) {
            boolean coded = first >= 16 && first <= 31 || first >= 144 && first <= 159;
            dueKind("first byte " + first, coded ? 1 : 2, coded ? 14 : 1, Bench.withSum(PLAIN, 0, first));
        }
    }

    /** Each of these bytes of a packet may be 0 to the highest, the sum being right. */
    private static void dueNotAbove(int highest, int firstByte, int lastByte) {
        for (int k = firstByte; k <= lastByte; k++) {
            dueKind("byte " + k + " lowest", 1, 14, Bench.withSum(PLAIN, k, 0));
            dueKind("byte " + k + " highest", 1, 14, Bench.withSum(PLAIN, k, highest));
            dueKind("byte " + k + " one above", 2, 14, Bench.withSum(PLAIN, k, highest + 1));
            dueKind("byte " + k + " far above", 2, 14, Bench.withSum(PLAIN, k, 255));
        }
    }

    private static void codesNotAbove30() {
        says("the codes are not above 30");
        dueNotAbove(30, 1, 4);
        VoiceForge high = Bench.holding(Bench.withSum(PLAIN, 1, 30));
        high.decode();
        CHECKS.dueOut("30 is 15 sixteenths", high, true, 12, 11.25);
        VoiceForge low = Bench.holding(Bench.withSum(PLAIN, 1, 0));
        low.decode();
        CHECKS.dueOut("0 is -15 sixteenths", low, true, 12, -11.25);
    }

    private static void levelsNotAbove63() {
        says("the levels not above 63");
        dueNotAbove(63, 5, 12);
        VoiceForge forge = Bench.holding(Bench.summed(20, 15, 15, 15, 15, 0, 63, 7, 56, 36, 36, 36, 36, 0));
        forge.decode();
        CHECKS.dueOut("-4 and 3", forge, true, -16, -16, 12, 12, -16, 12, 12, -16, 0);
    }

    private static void sumMustBeRight() {
        says("the four, eight BYTES and the sum; the codes are not above 30, the levels not above 63");
        for (int k = 1; k <= 13; k++) {
            dueKind("byte " + k + " one less", 2, 14, Bench.with(PLAIN, k, PLAIN[k] - 1));
            dueKind("byte " + k + " one more", 2, 14, Bench.with(PLAIN, k, PLAIN[k] + 1));
        }
        dueKind("another mark", 2, 14, Bench.with(PLAIN, 0, 21));
        dueKind("the mark of the other book", 2, 14, Bench.with(PLAIN, 0, 148));
        dueKind("two that make up for one another", 1, 14, Bench.with(Bench.with(PLAIN, 1, 16), 2, 14));
    }

    /** Sums of 255, 256, 511 and 512: the sum is told by its lowest 8 bits. */
    private static void sumWrapsAround() {
        says("the lowest 8 bits of the sum of these.");
        int[] low = {16, 15, 15, 15, 15, 36, 36, 36, 36, 35, 0, 0, 0, 255};
        dueKind("255", 1, 14, low);
        dueKind("255 is not 0", 2, 14, Bench.with(low, 13, 0));
        dueKind("256", 1, 14, Bench.with(Bench.with(low, 9, 36), 13, 0));
        dueKind("256 is not 255", 2, 14, Bench.with(low, 9, 36));
        int[] high = {16, 15, 15, 15, 15, 63, 63, 63, 63, 63, 63, 57, 0, 255};
        dueKind("511", 1, 14, high);
        dueKind("512", 1, 14, Bench.with(Bench.with(high, 12, 1), 13, 0));
    }

    private static void bookOfThePacket() {
        says("then it is decoded as said, with the BOOK that it tells.");
        int[] linear = Bench.withSum(PLAIN, 0, 144 + 15);
        int[] doubling = Bench.withSum(PLAIN, 0, 16 + 15);
        int[] leastLinear = Bench.withSum(PLAIN, 0, 144);
        int[] leastDoubling = Bench.withSum(PLAIN, 0, 16);
        VoiceForge forge = Bench.holding(linear, doubling, leastLinear, leastDoubling);
        double[] told = {3 * 241, 3 * 8192, 3, 0.75};
        boolean book = true;
        for (double first : told) {
            forge.linear(book);
            book = !book;
            due("by its codes", forge.decode(), 1);
            CHECKS.dueOut("whatever the coder's book is", forge, true, first, 0, 0);
        }
        due("the coder's book stays", forge.count(6), 0);
    }

    private static void samplesAreClipped() {
        says("y(n) is p + l * STEP, clipped to -32768, 32767.");
        int[] loud = Bench.with(Bench.with(PLAIN, 0, 31), 1, 30);
        VoiceForge high = Bench.holding(Bench.withSum(loud, 5, 63));
        high.decode();
        CHECKS.dueOut("above, and told on from there", high, true, 24576, 32767, 32767 * 0.9375);
        VoiceForge low = Bench.holding(Bench.withSum(loud, 5, 0));
        low.decode();
        CHECKS.dueOut("below, and told on from there", low, true, -32768, -32768, -30720);
        VoiceForge edge = Bench.holding(Bench.withSum(Bench.with(PLAIN, 0, 31), 5, 8 * 0 + 7));
        edge.decode();
        CHECKS.dueOut("the lowest is not clipped", edge, true, -32768, 24576);
    }

    private static void damagedFirstByte() {
        says("DAMAGED is a PACKET that is not as said: with its first BYTE that is one alone");
        for (int first : new int[] {1, 15, 32, 127, 128, 143, 160, 255}) {
            VoiceForge forge = new VoiceForge();
            Bench.putByte(forge, first);
            Bench.put(forge, PLAIN);
            due(first + ": made up", forge.decode(), 2);
            due(first + ": one byte", forge.count(1), 1);
            due(first + ": the next is sound", forge.decode(), 1);
            CHECKS.dueCounts(first + ": both", forge, 0, 15, 2, 2, 0, 1, 0);
        }
        VoiceForge last = new VoiceForge();
        Bench.putByte(last, 15);
        due("at the end it is not cut", Checks.answer(last::decode), 2);
    }

    private static void damagedElsewhere() {
        says("else with all 14.");
        for (int k = 1; k <= 13; k++) {
            VoiceForge forge = Bench.holding(Bench.with(PLAIN, k, 255), PLAIN);
            due("byte " + k + ": made up", forge.decode(), 2);
            due("byte " + k + ": 14 bytes", forge.count(1), 14);
            due("byte " + k + ": the next is sound", forge.decode(), 1);
        }
    }

    private static void cutPackets() {
        says("CUT is one where BYTES are missing at the end");
        for (int first : LOWEST_AND_HIGHEST_MARKS) {
            for (int left = 1; left <= 13; left++) {
                VoiceForge forge = Bench.holding(Bench.withSum(PLAIN, 0, first));
                forge.cut(14 - left);
                CHECKS.dueThrow(first + ", " + left + " left", IllegalStateException.class, forge::decode);
            }
            dueKind(first + ", all there", 1, 14, Bench.withSum(PLAIN, 0, first));
        }
        VoiceForge second = Bench.holding(PLAIN, PLAIN);
        second.cut(1);
        due("the one before it is whole", second.decode(), 1);
        CHECKS.dueThrow("the second is cut", IllegalStateException.class, second::decode);
        VoiceForge none = Bench.holding(PLAIN);
        none.cut(14);
        CHECKS.dueThrow("without any byte it is not cut", NoSuchElementException.class, none::decode);
    }

    private static void cutIsLookedAtFirst() {
        says("(looked at before all else in it)");
        for (int k = 1; k <= 12; k++) {
            VoiceForge forge = Bench.holding(Bench.with(PLAIN, k, 255));
            forge.cut(1);
            CHECKS.dueThrow("damaged at " + k + " and cut", IllegalStateException.class, forge::decode);
        }
    }

    private static void cutDecodesNothing() {
        says("nothing is decoded then.");
        VoiceForge forge = Bench.holding(HALVING, PLAIN);
        forge.cut(1);
        forge.decode();
        double last = forge.out(true, 15);
        for (int again = 1; again <= 2; again++) {
            CHECKS.dueThrow("cut", IllegalStateException.class, forge::decode);
            CHECKS.dueCounts("as before", forge, 0, 14, 2, 1, 0, 0, 0);
            due("samples as before", forge.out(true, 15), last);
            due("bytes as before", forge.stream(-1), 27);
        }
        Bench.putByte(forge, PLAIN[13]);
        due("whole again", forge.decode(), 1);
        VoiceForge first = Bench.holding(PLAIN);
        first.cut(13);
        CHECKS.dueThrow("cut", IllegalStateException.class, first::decode);
        CHECKS.dueThrow("no samples", IndexOutOfBoundsException.class, () -> first.out(true, 0));
        CHECKS.dueThrow("nothing to compare", IllegalStateException.class, first::apart);
        first.damage(0, 15);
        due("one byte, damaged", first.decode(), 2);
        CHECKS.dueOut("nothing was kept of the cut one", first, true, new double[16]);
    }

    /** 12 is the last sample before: a half of it, and 0.875 of that, and so on. */
    private static void madeUpByTheLatestWeights() {
        says("y(n) is p * 0.875, by the a of the latest PACKET that was decoded and not SILENT");
        VoiceForge forge = Bench.holding(HALVING, Bench.with(PLAIN, 13, 0), Bench.with(PLAIN, 0, 1));
        forge.decode();
        due("made up", forge.decode(), 2);
        CHECKS.dueOut("made up", forge, true, 5.25, 2.296875, 1.0048828125);
        float last = (float) forge.out(true, 15);
        due("made up again", forge.decode(), 2);
        due("from what was made up", forge.out(true, 0), (double) (last * 0.5f * 0.875f));
        VoiceForge order = Bench.holding(Bench.summed(18, 15, 15, 15, 23, 36, 36, 36, 36, 36, 36, 62, 40, 0),
            Bench.with(PLAIN, 13, 0));
        order.decode();
        order.decode();
        CHECKS.dueOut("a(4) of 3, 2, 1, -4", order, true, 1.3125, 0.875, 0.4375, -1.75, 0.57421875);
    }

    private static void madeUpNotByOthers() {
        says("the latest PACKET that was decoded and not SILENT");
        int[] ending = Bench.withSum(PLAIN, 12, 8 * 4 + 7);
        VoiceForge forge = Bench.holding(HALVING, ending, Bench.with(HALVING, 13, 0));
        for (int k = 0; k < 3; k++) {
            forge.decode();
        }
        CHECKS.dueOut("0 by the latest, not those before or its own", forge, true, new double[16]);
        VoiceForge cut = Bench.holding(HALVING, PLAIN);
        cut.cut(1);
        cut.decode();
        CHECKS.dueThrow("cut", IllegalStateException.class, cut::decode);
        cut.damage(14, 200);
        cut.decode();
        CHECKS.dueOut("not by a cut one", cut, true, 5.25, 2.296875);
    }

    private static void madeUpWithoutWeights() {
        says("(0 without)");
        VoiceForge forge = new VoiceForge();
        Bench.even(forge, 1000);
        forge.encode();
        due("the coder has weights", forge.code(1), 15);
        forge.damage(0, 15);
        due("made up at first", forge.decode(), 2);
        CHECKS.dueOut("0", forge, true, new double[16]);
        VoiceForge silent = new VoiceForge();
        Bench.silence(silent);
        Bench.putByte(silent, 255);
        silent.decode();
        due("made up behind silence", silent.decode(), 2);
        CHECKS.dueOut("0 behind silence", silent, true, new double[16]);
        VoiceForge again = Bench.holding(HALVING);
        again.decode();
        again.reset();
        Bench.putByte(again, 255);
        again.decode();
        CHECKS.dueOut("0 after reset", again, true, new double[16]);
    }

    /** Codes 15 and -15 make a(1) 1.81640625, so that 24576 at the end is told to go on growing. */
    private static void madeUpClipped() {
        says("y(n) is p * 0.875, by the a of the latest PACKET that was decoded and not SILENT (0 without), clipped.");
        int[] growing = {31, 30, 0, 15, 15, 36, 36, 36, 36, 36, 36, 36, 36, 0};
        VoiceForge high = Bench.holding(Bench.withSum(growing, 12, 8 * 4 + 7), Bench.with(PLAIN, 0, 200));
        high.decode();
        high.decode();
        CHECKS.dueOut("above, and told on from there", high, true, 32767,
            (1.81640625f * 32767f - 0.9375f * 24576f) * 0.875f);
        VoiceForge low = Bench.holding(Bench.withSum(growing, 12, 8 * 4), Bench.with(PLAIN, 0, 200));
        low.decode();
        low.decode();
        CHECKS.dueOut("below, and told on from there", low, true, -32768,
            (1.81640625f * -32768f - 0.9375f * -32768f) * 0.875f);
    }
}
