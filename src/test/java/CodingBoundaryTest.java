/** The boundary cases that 'Terms' names for the input and for CODING A FRAME, a test for each sentence. */
public final class CodingBoundaryTest {
    private static final Checks CHECKS = new Checks();

    /** At n = 0 and n = 5 there is no likeness within four samples, so that all codes are 0. */
    private static final int FAR = 5;

    private static final double[] WAVE = {1, 6, 13, 21, 26, 26, 19, 7, -7, -20, -27, -27, -22, -14, -6, -2};
    private static final double[] SMALL_WAVE = {1, 2, 2, 3, 3, 2, 2, 1, 0, 0, -1, -2, -2, -2, -2, -1};

    public static void main(String[] args) {
        sumsInFloats();
        sumsFromTheLeft();
        productsRoundedFirst();
        samplesAreFloats();
        frameIsTheFirstSixteen();
        memoryAtFirst();
        memoryIsTheLastFour();
        bookAtFirst();
        likenessReach();
        silentBelowOne();
        silentPacket();
        codeHalves();
        codeLimits();
        codeWithoutNumber();
        weightsAtOnce();
        restReachesBackFour();
        restStartsAtTheFrame();
        stepCodeEdges();
        stepCodeBeyondAll();
        stepsOfTheBooks();
        levelHalves();
        levelLimits();
        clippedSamples();
        firstByte();
        codeBytes();
        levelBytes();
        sumWrapsAround();
        CHECKS.end();
    }

    private static void says(String words) {
        CHECKS.sentence("Promise 4, CODING A FRAME", words);
    }

    private static void due(String what, Object got, Object want) {
        CHECKS.due(what, got, want);
    }

    private static int sizeOf(double... values) {
        return Bench.coded(values).stream(-1);
    }

    /** Squares whose sum is 1 by the decimals: floats and doubles go to different sides of it. */
    private static void sumsInFloats() {
        says("All is reckoned in floats");
        due("1 in floats, below it in doubles", sizeOf(0.5, 0.5, 0.7, 0.1), 14);
        due("below 1 in floats, above it in doubles", sizeOf(0.5, 0.1, 0.1, 0.1, 0.2, 0.3, 0.3, 0.7, 0.1), 1);
    }

    private static void sumsFromTheLeft() {
        says("sums from the left to the right");
        due("below 1 from the left, 1 from the right", sizeOf(0.7, 0.7, 0.1, 0.1), 1);
        due("1 from the left, below it from the right", sizeOf(0.1, 0.1, 0.7, 0.7), 14);
    }

    private static void productsRoundedFirst() {
        says("products rounded before they are added");
        due("below 1, else 1", sizeOf(0.1, 0.1, 0.9, 0.4, 0.1), 1);
        due("1, else below it", sizeOf(0.5, 0.4, 0.2, 0.2, 0.7, 0.1, 0.1), 14);
    }

    private static void samplesAreFloats() {
        says("SAMPLES are floats from -32768 to 32767.");
        due("0.99999999 is 1 as a float", sizeOf(0.99999999), 14);
        due("0.9999999 is below it", sizeOf(0.9999999), 1);
        VoiceForge forge = Bench.coded(-32768, 0, 0, 0, 0, 32767);
        due("the lowest", forge.out(false, 0), -32768.0);
        due("the highest, by level 3", forge.out(false, FAR), 24576.0);
    }

    private static void frameIsTheFirstSixteen() {
        says("THE INPUT is a row of at most 48 SAMPLES; A FRAME is its first 16, x(0) to x(15).");
        VoiceForge forge = new VoiceForge();
        for (int k = 1; k <= 3; k++) {
            Bench.frame(forge, 16 * k);
        }
        for (int k = 1; k <= 3; k++) {
            forge.encode();
            due("frame " + k + " of a full input", forge.out(false, 0), 16.0 * k);
            due("left behind frame " + k, forge.count(0), 48 - 16 * k);
        }
        forge.reset();
        Bench.samples(forge, 15, 0);
        forge.sample(16);
        forge.sample(1000);
        forge.encode();
        due("x(15) is in", forge.out(false, 15), 16.0);
        due("x(16) is not", forge.code(0), 5);
        Bench.samples(forge, 15, 0);
        forge.encode();
        due("it is x(0) of the next", forge.out(false, 0) > 700, true);
    }

    private static void memoryAtFirst() {
        says("MEMORY, the last 4 SAMPLES of theirs, the latest first, 0 at first.");
        VoiceForge forge = Bench.coded(16, 16, 16, 16);
        due("codes are there", forge.code(1), 12);
        due("nothing is foretold for sample 0", forge.out(false, 0), 16.0);
        due("a level of 2 in step 8", forge.stream(5) / 8, 2 + 4);
    }

    /** Of the second frame only a(4) is not 0: a half; 48, the first frame's last, tells of sample 3. */
    private static void memoryIsTheLastFour() {
        says("CODER and DECODER each have a MEMORY, the last 4 SAMPLES of theirs, the latest first");
        VoiceForge forge = new VoiceForge();
        Bench.frame(forge, 0, 0, 0, 0, 0, 0, 0, 0, 0, 0, 0, 0, 0, 0, 0, 48);
        Bench.frame(forge, 0, 24, 0, 0, 0, 24);
        forge.encode();
        due("the first frame's last", forge.out(false, 15), 48.0);
        forge.encode();
        CHECKS.dueCodes("a(4) alone", forge, 5, 0, 0, 0, 8);
        CHECKS.dueBytes("24 foretold for sample 3, level -3", forge, 14 + 5, 8 * 4 + 7, 8 * 4 + 1);
        CHECKS.dueOut("a half of what was four before", forge, false, 0, 24, 0, 0, 0, 28, 0, 0, 0, -2);
    }

    private static void bookAtFirst() {
        says("There is a BOOK for steps, LINEAR or DOUBLING (which at first).");
        due("doubling at first", Bench.holding(new int[0]).stream(0), 16 + 5);
        due("not linear", new VoiceForge().count(6), 0);
    }

    /** Two samples of 16 a distance apart: half of r(0) is their likeness, if it is looked at. */
    private static void likenessReach() {
        says("for k from 0 to 4 r(k) is the sum of x(n) * x(n - k) for n from k to 15 (from 0 on).");
        for (int start : new int[] {0, 10}) {
            for (int apart = 1; apart <= FAR; apart++) {
                double[] values = new double[16];
                values[start] = 16;
                values[start + apart] = 16;
                VoiceForge forge = Bench.coded(values);
                for (int i = 1; i <= Math.min(apart, 4); i++) {
                    due(start + " and " + apart + " behind: code " + i, forge.code(i), i == apart ? 8 : 0);
                }
            }
        }
        VoiceForge forge = new VoiceForge();
        Bench.frame(forge, 0, 0, 0, 0, 0, 0, 0, 0, 0, 0, 0, 0, 0, 0, 0, 16);
        Bench.frame(forge, 16);
        forge.encode();
        CHECKS.dueCodes("not with the next frame", forge, 5, 0, 0, 0, 0);
        forge.encode();
        CHECKS.dueCodes("not with the frame before", forge, 5, 0, 0, 0, 0);
    }

    private static void silentBelowOne() {
        says("With r(0) below 1 it is SILENT");
        due("nothing but 0", sizeOf(), 1);
        due("1 as a float, one step lower", sizeOf(Math.nextDown(1f)), 1);
        due("-1, one step nearer to 0", sizeOf(-Math.nextDown(1f)), 1);
        due("just 1", sizeOf(1), 14);
        due("just -1", sizeOf(-1), 14);
        due("just 1 of four", sizeOf(0.5, -0.5, 0.5, -0.5), 14);
        due("a little below it", sizeOf(0.5, -0.5, 0.5, -0.4999), 1);
        due("1 in the last sample", sizeOf(0, 0, 0, 0, 0, 0, 0, 0, 0, 0, 0, 0, 0, 0, 0, 1), 14);
    }

    private static void silentPacket() {
        says("the PACKET is the BYTE 0 alone; the SAMPLES are 0.");
        VoiceForge forge = Bench.codedBy(true, 0, 0, 0, 0, 0, 0, 0, 0, 0, 0, 0, 0, 17, 17, 17, 17);
        Bench.frame(forge, 0.9);
        Bench.frame(forge, 16, 16, 16, 16);
        due("one byte", forge.encode(), 1);
        CHECKS.dueBytes("0, in the linear book too", forge, 14, 0);
        due("alone", forge.stream(-1), 15);
        CHECKS.dueOut("0", forge, false, new double[16]);
        forge.encode();
        due("0 in the memory too", forge.out(false, 0), 17.0);
    }

    /** r(1) stands in the frame's first two samples; the others only make r(0) 32 or a little more. */
    private static void codeHalves() {
        says("the whole part of k * 16 plus 0.5 (less 0.5 if k is below 0)");
        due("1.5", Bench.coded(3, 1, 0, 3, 0, 3, 0, 2).code(1), 2);
        due("below 1.5", Bench.coded(3, 1, 0, 3, 0, 3, 0, 2.001).code(1), 1);
        due("-1.5", Bench.coded(3, -1, 0, 3, 0, 3, 0, 2).code(1), -2);
        due("above -1.5", Bench.coded(3, -1, 0, 3, 0, 3, 0, 2.001).code(1), -1);
        due("0.5", Bench.coded(1, 1, 0, 5, 0, 2, 0, 1).code(1), 1);
        due("below 0.5", Bench.coded(1, 1, 0, 5, 0, 2, 0, 1.001).code(1), 0);
        due("-0.5", Bench.coded(1, -1, 0, 5, 0, 2, 0, 1).code(1), -1);
        due("above -0.5", Bench.coded(1, -1, 0, 5, 0, 2, 0, 1.001).code(1), 0);
        due("0", Bench.coded(1, 0, 0, 5, 0, 2, 0, 1).code(1), 0);
    }

    private static void dueFourCodes(String what, VoiceForge forge, int... want) {
        for (int i = 1; i <= 4; i++) {
            due(what + ": code " + i, forge.code(i), want[i - 1]);
        }
    }

    /** The numbers told are k * 16. */
    private static void codeLimits() {
        says("but not below -15 or above 15");
        double[] arch = {7, 14, 21, 26, 31, 35, 38, 39, 39, 38, 35, 31, 26, 20, 14, 7};
        due("15.7", Bench.coded(arch).code(1), 15);
        double[] turned = arch.clone();
        for (int n = 1; n < 16; n += 2) {
            turned[n] = -arch[n];
        }
        due("-15.7", Bench.coded(turned).code(1), -15);
        dueFourCodes("14.5, -26, -29 and 222", Bench.coded(WAVE), 15, -15, -15, 15);
        dueFourCodes("14.5, -14.5, 46 and -749", Bench.coded(SMALL_WAVE), 15, -15, 15, -15);
    }

    /**
     * E stays above 0: r(0) is at least 1 and q at most 15/16. So k is always a number, and what can
     * be asked is that the frames with the least and the greatest E give codes like any other.
     */
    private static void codeWithoutNumber() {
        says("(0 if k is no number)");
        CHECKS.dueCodes("least r(0)", Bench.coded(1), 1, 0, 0, 0, 0);
        VoiceForge loud = new VoiceForge();
        Bench.even(loud, -32768);
        loud.encode();
        CHECKS.dueCodes("greatest r(0)", loud, 15, 15, -1, 0, -1);
    }

    /** Codes 8, 4, -8 and 8; one after the other, a(3) would be -0.875. The impulse of 16 tells the weights. */
    private static void weightsAtOnce() {
        says("each a(j) becomes a(j) - q * a(i - j), all at once; a(i) is q");
        VoiceForge forge = Bench.holding(Bench.summed(21, 23, 19, 7, 23, 52, 36, 36, 36, 36, 36, 36, 36, 0));
        due("sound", forge.decode(), 1);
        CHECKS.dueOut("a: 0.75, 0.21875, -0.75, 0.5", forge, true, 16, 12, 12.5, 0, 1.734375);
        CHECKS.dueCodes("the coder's a(1)", Bench.coded(32767, 32767), 15, 8, -5, 4, -3, 3, 51200);
    }

    /** Four samples, each four behind the one before, so that only a(4) is not 0: it is 0.75. */
    private static void restReachesBackFour() {
        says("m is the greatest |x(n) - p| with p the sum of a(j) * x(n - j), j from 1 to 4");
        VoiceForge forge = Bench.coded(16, 0, 0, 0, 32, 0, 0, 0, 32, 0, 0, 0, 32);
        dueFourCodes("12.3", forge, 0, 0, 0, 12);
        due("32 less 12 is the greatest, 20", forge.code(0), 5);
        VoiceForge more = Bench.coded(16, 0, 0, 0, 36.5, 0, 0, 0, 32, 0, 0, 0, 32);
        dueFourCodes("12.2", more, 0, 0, 0, 12);
        due("36.5 less 12 is the greatest, 24.5", more.code(0), 6);
    }

    private static void restStartsAtTheFrame() {
        says("p the sum of a(j) * x(n - j), j from 1 to 4 (from 0 on, x before the FRAME being 0).");
        VoiceForge forge = new VoiceForge();
        Bench.even(forge, 30000);
        Bench.even(forge, 96);
        forge.encode();
        forge.encode();
        due("by x alone, not by the memory", forge.code(0), 7);
        VoiceForge last = Bench.coded(0, 0, 0, 0, 0, 0, 0, 0, 0, 0, 0, 0, 0, 0, 0, -24);
        due("x(15) counts, without its sign", last.code(0), 5);
    }

    private static double step(boolean linear, int g) {
        return linear ? 16 * g + 1 : (1 << g) / 4.0;
    }

    /** Two samples far apart, so that the least step of the doubling book is not behind silence. */
    private static void dueStepCode(String what, boolean linear, double most, int g) {
        due(what + ", above 0", Bench.codedBy(linear, most, 0, 0, 0, 0, most).code(0), g);
        due(what + ", below 0", Bench.codedBy(linear, -most, 0, 0, 0, 0, -most).code(0), g);
    }

    private static void stepCodeEdges() {
        says("The STEP CODE is the least g from 0 to 15 for which 3 times the STEP of g is not below m");
        for (boolean linear : new boolean[] {false, true}) {
            for (int g = 0; g <= 15; g++) {
                String what = (linear ? "linear " : "doubling ") + g;
                float most = (float) (3 * step(linear, g));
                dueStepCode(what + ": just three steps", linear, most, g);
                dueStepCode(what + ": a little less", linear, Math.nextDown(most), g);
                dueStepCode(what + ": a little more", linear, Math.nextUp(most), Math.min(15, g + 1));
            }
        }
        dueStepCode("least of the linear book", true, 1, 0);
    }

    private static void stepCodeBeyondAll() {
        says("not below m, else 15.");
        dueStepCode("doubling", false, 32767, 15);
        dueStepCode("linear, a little beyond", true, 723.5, 15);
        dueStepCode("linear", true, 32767, 15);
        due("first byte, doubling", Bench.codedBy(false, 32767).stream(0), 31);
        due("first byte, linear", Bench.codedBy(true, 32767).stream(0), 159);
    }

    private static void stepsOfTheBooks() {
        says("LINEAR 16 * g + 1; DOUBLING 2 to the power g, divided by 4.");
        for (boolean linear : new boolean[] {false, true}) {
            for (int g = 0; g <= 15; g++) {
                double step = step(linear, g);
                VoiceForge forge = Bench.codedBy(linear, 3 * step, 0, 0, 0, 0, -3 * step, 0, 0, 0, 0, -step);
                String what = (linear ? "linear " : "doubling ") + g;
                CHECKS.dueOut(what, forge, false, 3 * step, 0, 0, 0, 0, -3 * step, 0, 0, 0, 0, -step);
                forge.decode();
                due(what + ": the decoder's", forge.out(true, 10), -step);
            }
        }
    }

    /** The first sample makes the step 8; the one that is looked at stands far behind it. */
    private static void dueLevel(double x, int level) {
        VoiceForge forge = Bench.coded(24, 0, 0, 0, 0, x);
        due(x + " by step 8: level", forge.stream(7) % 8 - 4, level);
        due(x + " by step 8: y", forge.out(false, FAR), level * 8.0);
    }

    private static void levelHalves() {
        says("its LEVEL l is the whole part of d plus 0.5 (less 0.5 if d is below 0)");
        dueLevel(4, 1);
        dueLevel(3.999, 0);
        dueLevel(-4, -1);
        dueLevel(-3.999, 0);
        dueLevel(12, 2);
        dueLevel(Math.nextDown(12f), 1);
        dueLevel(-12, -2);
        dueLevel(20, 3);
        dueLevel(-20, -3);
        dueLevel(-Math.nextDown(20f), -2);
        dueLevel(0, 0);
        // The float next to a half is 1 with a half more, floats being what is reckoned in.
        dueLevel(Math.nextDown(4f), 1);
        dueLevel(-Math.nextDown(4f), -1);
    }

    private static void dueLinearLevel(double x, int level) {
        VoiceForge forge = Bench.codedBy(true, 24000, 0, 0, 0, 0, x);
        due(x + " by step 241: level", forge.stream(7) % 8 - 4, level);
        due(x + " by step 241: y", forge.out(false, FAR), level * 241.0);
    }

    private static void levelLimits() {
        says("not below -4 or above 3");
        dueLinearLevel(2.5 * 241, 3);
        dueLinearLevel(3 * 241, 3);
        dueLinearLevel(3.5 * 241, 3);
        dueLinearLevel(4 * 241, 3);
        dueLinearLevel(-3.5 * 241, -4);
        dueLinearLevel(-3.49 * 241, -3);
        dueLinearLevel(-4 * 241, -4);
        dueLinearLevel(-4.5 * 241, -4);
        dueLinearLevel(-5 * 241, -4);
        due("the highest sample", Bench.codedBy(true, 32767).out(false, 0), 723.0);
        due("the lowest", Bench.codedBy(true, -32768).out(false, 0), -964.0);
    }

    /** a(1) is 0.78125: 19200 is foretold from 24576, and two steps more are 35584. */
    private static void clippedSamples() {
        says("y(n) is p + l * STEP, clipped to -32768, 32767.");
        VoiceForge high = Bench.coded(32767, 32767);
        CHECKS.dueBytes("levels 3, 2 and -1", high, 5, 8 * 7 + 6, 8 * 3 + 5);
        CHECKS.dueOut("above", high, false, 24576, 32767, 3499.21875);
        VoiceForge low = Bench.coded(-32768, -32768);
        CHECKS.dueBytes("levels -4 and -1", low, 5, 8 * 0 + 3);
        CHECKS.dueOut("below, not -33792", low, false, -32768, -32768);
    }

    private static void firstByte() {
        says("THE PACKET: the BYTE 16 + g, with 128 more if the BOOK is LINEAR");
        due("least, doubling", Bench.coded(0.75, 0, 0, 0, 0, 0.75).stream(0), 16);
        due("greatest, doubling", Bench.coded(24577).stream(0), 31);
        due("least, linear", Bench.codedBy(true, 3).stream(0), 144);
        due("greatest, linear", Bench.codedBy(true, 724).stream(0), 159);
    }

    private static void codeBytes() {
        says("four BYTES, c + 15 each");
        CHECKS.dueBytes("15, -15, -15, 15", Bench.coded(WAVE), 1, 30, 0, 0, 30);
        CHECKS.dueBytes("0", Bench.coded(16), 1, 15, 15, 15, 15);
    }

    /** In the linear book both samples are far beyond its steps; the codes come from their being side by side. */
    private static void levelBytes() {
        says("eight BYTES, 8 * (l(2 k) + 4) + l(2 k + 1) + 4");
        due("3 and 3", Bench.codedBy(true, 20000, 20000).stream(5), 63);
        due("-4 and -4", Bench.codedBy(true, -20000, -20000).stream(5), 0);
        due("3 and -4", Bench.codedBy(true, 20000, -20000).stream(5), 56);
        due("-4 and 3", Bench.codedBy(true, -20000, 20000).stream(5), 7);
        double[] last = new double[16];
        last[14] = 20000;
        last[15] = -20000;
        due("the last pair", Bench.codedBy(true, last).stream(12), 56);
    }

    /** Frames of the linear book whose sums are below 256, just below 512, just 512 and far beyond it. */
    private static void sumWrapsAround() {
        says("the lowest 8 bits of the sum of these.");
        double[] low = new double[16];
        double[] high = new double[16];
        for (int n = 0; n < 16; n++) {
            low[n] = -20000;
            high[n] = 20000;
        }
        dueSum(232, 232, low);
        dueSum(511, 255, 16, 0, 16, 0, 16, 0, 16);
        dueSum(512, 0, 16, 0, 0, 16, 0, 0, 16);
        dueSum(736, 224, high);
    }

    private static void dueSum(int sum, int check, double... values) {
        VoiceForge forge = Bench.codedBy(true, values);
        int all = 0;
        for (int k = 0; k < 13; k++) {
            all += forge.stream(k);
        }
        due("sum", all, sum);
        due("lowest 8 bits of " + sum, forge.stream(13), check);
    }
}
