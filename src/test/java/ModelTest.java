import java.util.Random;

/** Long runs of calls, the same every time, whose every answer must be the Model's. */
public final class ModelTest {
    private static final int RUNS = 6000;
    /** The look at everything takes at most 167 calls more: 512 are promised for an object. */
    private static final int CALLS_BEFORE_LAST_LOOK = 340;

    private final Checks checks = new Checks();
    private final Random random;
    private final int run;
    private VoiceForge forge;
    private Model model;
    private int calls;

    private ModelTest(int run) {
        this.run = run;
        this.random = new Random(run);
        this.forge = new VoiceForge();
        this.model = new Model();
    }

    public static void main(String[] args) {
        for (int run = 0; run < RUNS; run++) {
            ModelTest test = new ModelTest(run);
            for (int step = 0; test.calls < CALLS_BEFORE_LAST_LOOK; step++) {
                test.step(step);
            }
            test.checkEverything();
        }
        System.out.println(RUNS + " runs are as the model's");
    }

    /** Stops at the first wrong answer: what follows it would only repeat it. */
    private void same(String call, Object got, Object want) {
        calls++;
        checks.due("run " + run + ": " + call, got, want);
        if (!want.equals(got)) {
            checks.end();
        }
    }

    private void step(int at) {
        int pick = random.nextInt(100);
        if (pick < 55) {
            double v = voice(at);
            same("sample(" + v + ")", Checks.answer(() -> forge.sample(v)), Checks.answer(() -> model.sample(v)));
        } else if (pick < 63) {
            same("encode()", Checks.answer(forge::encode), Checks.answer(model::encode));
        } else if (pick < 73) {
            same("decode()", Checks.answer(forge::decode), Checks.answer(model::decode));
        } else if (pick < 76) {
            damage();
        } else if (pick < 77) {
            cut();
        } else if (pick < 78) {
            if (random.nextInt(3) == 0 || model.stream(-1) > 106) {
                same("reset()", forge.reset(), model.reset());
            }
        } else if (pick < 80) {
            boolean is = random.nextBoolean();
            same("linear(" + is + ")", forge.linear(is), model.linear(is));
        } else {
            look();
        }
    }

    /** Each run has a loudness and a kind of its own, from near silence to clipping and wrong inputs. */
    private double voice(int at) {
        double[] loudness = {0.2, 0.3, 3, 40, 700, 9000, 32767, 120000};
        double loud = loudness[run % loudness.length];
        double v;
        switch (run / loudness.length % 5) {
            case 0: v = loud * Math.sin(at * (0.01 + run % 37 / 20.0)); break;
            case 1: v = loud * (2 * random.nextDouble() - 1); break;
            case 2: v = random.nextInt(8) == 0 ? loud : 0; break;
            case 3: v = at % 2 == 0 ? loud : -loud; break;
            default: v = Math.rint(loud * random.nextGaussian() / 2); break;
        }
        if (random.nextInt(200) == 0) {
            double[] odd = {Double.NaN, Double.POSITIVE_INFINITY, -40000, 32767.5, -32768.5, -0.0};
            return odd[random.nextInt(odd.length)];
        }
        return random.nextInt(50) == 0 ? v : Math.max(-32768, Math.min(32767, v));
    }

    /** Every second time the next packet's sum is mended after it, so that codes and levels are looked at. */
    private void damage() {
        int size = model.stream(-1);
        int k = random.nextInt(size + 2) - 1;
        int b = random.nextInt(4) == 0 ? random.nextInt(258) - 1 : random.nextInt(64);
        same("damage(" + k + ", " + b + ")", Checks.answer(() -> forge.damage(k, b)),
            Checks.answer(() -> model.damage(k, b)));
        int start = model.count(1);
        if (random.nextBoolean() && start + 14 <= model.stream(-1)) {
            int sum = 0;
            for (int at = start; at < start + 13; at++) {
                sum += model.stream(at);
            }
            int mended = sum & 255;
            same("damage to mend", forge.damage(start + 13, mended), model.damage(start + 13, mended));
        }
    }

    private void cut() {
        int n = random.nextInt(20) - 1;
        same("cut(" + n + ")", Checks.answer(() -> forge.cut(n)), Checks.answer(() -> model.cut(n)));
    }

    private void look() {
        int k = random.nextInt(125) - 2;
        int n = random.nextInt(18) - 1;
        int what = random.nextInt(9) - 1;
        boolean decoder = random.nextBoolean();
        same("stream(" + k + ")", Checks.answer(() -> forge.stream(k)), Checks.answer(() -> model.stream(k)));
        same("out(" + decoder + ", " + n + ")", Checks.answer(() -> forge.out(decoder, n)),
            Checks.answer(() -> model.out(decoder, n)));
        same("code(" + what + ")", Checks.answer(() -> forge.code(what)), Checks.answer(() -> model.code(what)));
        same("count(" + what + ")", Checks.answer(() -> forge.count(what)), Checks.answer(() -> model.count(what)));
        same("apart()", Checks.answer(forge::apart), Checks.answer(model::apart));
    }

    private void checkEverything() {
        for (int k = -1; k < model.stream(-1); k++) {
            same("stream(" + k + ")", forge.stream(k), model.stream(k));
        }
        for (int n = 0; n < 32; n++) {
            boolean decoder = n >= 16;
            int at = n % 16;
            same("out(" + decoder + ", " + at + ")", Checks.answer(() -> forge.out(decoder, at)),
                Checks.answer(() -> model.out(decoder, at)));
        }
        for (int what = 0; what <= 6; what++) {
            same("code(" + what + ")", forge.code(what), model.code(what));
            same("count(" + what + ")", forge.count(what), model.count(what));
        }
    }
}
