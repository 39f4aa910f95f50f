/** Each promise with ordinary inputs and answers worked out by hand; the BoundaryTests have the edges. */
public final class PromiseTest {
    private static final Checks CHECKS = new Checks();
    private static final int[] PLAIN = Bench.plain();

    public static void main(String[] args) {
        newObject();
        sample();
        linear();
        encodePlain();
        encodeCodes();
        encodeLevels();
        encodeMemory();
        decode();
        decodeMemory();
        decodeMadeUp();
        outAndApart();
        code();
        streamDamageAndCut();
        reset();
        count();
        CHECKS.end();
    }

    private static void promise(int number, String what) {
        CHECKS.sentence("Promise " + number, what);
    }

    private static void due(String what, Object got, Object want) {
        CHECKS.due(what, got, want);
    }

    private static void newObject() {
        promise(1, "what goes into one object does not go into another");
        VoiceForge one = Bench.holding(PLAIN);
        VoiceForge other = new VoiceForge();
        one.sample(1);
        one.linear(true);
        one.decode();
        CHECKS.dueCounts("the one", one, 1, 14, 1, 1, 0, 0, 1);
        CHECKS.dueCounts("the other", other, 0, 0, 0, 0, 0, 0, 0);
    }

    private static void sample() {
        promise(2, "samples come in, one behind the other");
        VoiceForge forge = new VoiceForge();
        due("first", forge.sample(16), 1);
        due("second", forge.sample(-3.5), 2);
        due("count", forge.count(0), 2);
    }

    private static void linear() {
        promise(3, "the linear book");
        VoiceForge forge = Bench.codedBy(true, 16);
        CHECKS.dueBytes("step 17, level 1", forge, 0, 145, 15, 15, 15, 15, 8 * 5 + 4);
        due("coded", forge.out(false, 0), 17.0);
        forge.decode();
        due("decoded", forge.out(true, 0), 17.0);
        due("the book stays", forge.linear(false), true);
    }

    private static void encodePlain() {
        promise(4, "a frame without likeness");
        VoiceForge forge = new VoiceForge();
        Bench.frame(forge, 16);
        forge.sample(5);
        due("plain", forge.encode(), 14);
        CHECKS.dueBytes("plain", forge, 0, 21, 15, 15, 15, 15, 52, 36, 36, 36, 36, 36, 36, 36, 129);
        CHECKS.dueOut("plain", forge, false, 16, 0, 0, 0, 0, 0, 0, 0, 0, 0, 0, 0, 0, 0, 0, 0);
        Bench.samples(forge, 15, 0);
        forge.encode();
        CHECKS.dueBytes("the rest comes first", forge, 14, 16 + 3, 15, 15, 15, 15, 8 * (3 + 4) + 4);
        due("5 by step 2 is 2.5, level 3", forge.out(false, 0), 6.0);
    }

    private static void encodeCodes() {
        promise(4, "an even frame");
        VoiceForge forge = new VoiceForge();
        Bench.even(forge, 100);
        forge.encode();
        CHECKS.dueBytes("even", forge, 0, 24, 30, 14, 15, 14);
        CHECKS.dueOut("127.5 is foretold from 128", forge, false, 128, 127.5);
    }

    /** Samples five apart have no likeness in reach, so that the codes are 0 and each stands for itself. */
    private static void encodeLevels() {
        promise(4, "levels by a step of 8");
        VoiceForge forge = Bench.coded(16, 0, 0, 0, 0, 4, 0, 0, 0, 0, -4, 0, 0, 0, 0, 3.9);
        CHECKS.dueOut("rounded", forge, false, 16, 0, 0, 0, 0, 8, 0, 0, 0, 0, -8, 0, 0, 0, 0, 0);
        CHECKS.dueBytes("levels", forge, 5, 52, 36, 36 + 1, 36, 36, 36 - 8, 36, 36);
    }

    /** What is foretold in a second frame comes from the samples decoded in the first. */
    private static void encodeMemory() {
        promise(4, "two even frames");
        VoiceForge forge = new VoiceForge();
        Bench.even(forge, 96);
        Bench.even(forge, 96);
        forge.encode();
        due("first: step code", forge.code(0), 7);
        due("first: y(0)", forge.out(false, 0), 96.0);
        float[] a = {0.99609375f, -0.06640625f, 0.062255859375f, -0.0625f};
        float p = 0;
        for (int j = 1; j <= 4; j++) {
            float product = a[j - 1] * (float) forge.out(false, 16 - j);
            p = p + product;
        }
        float d = (96 - p) / 32;
        int level = (int) (d < 0 ? d - 0.5f : d + 0.5f);
        forge.encode();
        due("second: step code is told without the first", forge.code(0), 7);
        due("second: y(0)", forge.out(false, 0), (double) (p + level * 32));
    }

    private static void decode() {
        promise(5, "a packet by its codes");
        VoiceForge forge = Bench.holding(PLAIN, Bench.withSum(PLAIN, 1, 23));
        due("no codes", forge.decode(), 1);
        CHECKS.dueOut("no codes", forge, true, 12, 0, 0, 0, 0, 0, 0, 0, 0, 0, 0, 0, 0, 0, 0, 0);
        due("a(1) is a half", forge.decode(), 1);
        CHECKS.dueOut("a(1) is a half", forge, true, 12, 6, 3, 1.5, 0.75);
    }

    private static void decodeMemory() {
        promise(5, "a packet foretold from the one before");
        VoiceForge forge = Bench.holding(Bench.withSum(PLAIN, 12, 8 * 4 + 7),
            Bench.withSum(Bench.with(PLAIN, 1, 23), 5, 36));
        forge.decode();
        due("last sample", forge.out(true, 15), 12.0);
        forge.decode();
        CHECKS.dueOut("halved on", forge, true, 6, 3, 1.5);
    }

    private static void decodeMadeUp() {
        promise(5, "a damaged packet");
        VoiceForge forge = Bench.holding(Bench.summed(20, 23, 15, 15, 15, 36, 36, 36, 36, 36, 36, 36, 39, 0),
            Bench.with(PLAIN, 6, 1), PLAIN);
        forge.decode();
        due("made up", forge.decode(), 2);
        CHECKS.dueOut("0.4375 of 12, and so on", forge, true, 5.25, 2.296875, 1.0048828125);
        due("sound again", forge.decode(), 1);
        CHECKS.dueOut("sound again", forge, true, 12, 0);
    }

    private static void outAndApart() {
        promise(6, "and promise 12: what was coded, and what was decoded");
        VoiceForge forge = Bench.coded(16, 0, 0, 0, 0, 8);
        forge.decode();
        due("alike", forge.apart(), 0.0);
        Bench.frame(forge, 16, 0, 0, 0, 0, -16);
        forge.encode();
        due("decoded", forge.out(true, 5), 8.0);
        due("coded", forge.out(false, 5), -16.0);
        due("the coder is ahead", forge.apart(), 24.0);
        forge.damage(14, 0);
        forge.decode();
        due("the packet is lost", forge.apart(), 16.0);
    }

    private static void code() {
        promise(7, "an even frame");
        VoiceForge forge = new VoiceForge();
        Bench.even(forge, 100);
        forge.encode();
        CHECKS.dueCodes("even", forge, 8, 15, -1, 0, -1, 2, 65280);
    }

    private static void streamDamageAndCut() {
        promise(8, "and promises 9 and 10: the bytes on their way");
        VoiceForge forge = Bench.coded(16);
        due("how many", forge.stream(-1), 14);
        due("first", forge.stream(0), 21);
        due("damage", forge.damage(0, 22), 21);
        due("damaged", forge.stream(0), 22);
        due("cut", forge.cut(4), 10);
        due("how many are left", forge.stream(-1), 10);
    }

    private static void reset() {
        promise(11, "all begins anew");
        VoiceForge forge = Bench.holding(PLAIN, PLAIN);
        forge.decode();
        forge.sample(3);
        due("how many it had", forge.reset(), 28);
        CHECKS.dueCounts("after it", forge, 1, 0, 0, 0, 0, 0, 0);
    }

    private static void count() {
        promise(13, "each packet is counted");
        VoiceForge forge = Bench.holding(PLAIN, Bench.with(PLAIN, 13, 1));
        Bench.silence(forge);
        forge.sample(1);
        CHECKS.dueCounts("before", forge, 1, 0, 3, 0, 0, 0, 0);
        forge.decode();
        CHECKS.dueCounts("by its codes", forge, 1, 14, 3, 1, 0, 0, 0);
        forge.decode();
        CHECKS.dueCounts("made up", forge, 1, 28, 3, 2, 0, 1, 0);
        forge.decode();
        CHECKS.dueCounts("silent", forge, 1, 29, 3, 3, 1, 1, 0);
    }
}
