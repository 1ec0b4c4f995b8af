import java.lang.management.ManagementFactory;
import java.util.NoSuchElementException;
import java.util.Random;

/**
 * Runs of 512 calls with any arguments in any state: nothing but what the document names is thrown,
 * the same calls give the same answers, and calls make (nearly) nothing.
 */
public final class AnyCallTest {
    private static final int RUNS = 600;
    private static final int CALLS = 512;
    /** All of one object: some 70,000 numbers of four bytes, and its nodes. */
    private static final long MOST_BYTES = 500_000;

    private static final String[] TEXTS = {
        "a=b,c?,(d|b)*", "x=(a{1,2}){2}", "x=[a&b,c?&d*]", "a=x*;b=x{0,3};c=x|y;d=x;e=0",
        "z=((a,b,c,d,e,f,g,h,i,j,k,l,m,n,o,p){12}){12}",
        "z=((a?,a?,a?,a?,a?,a?,a?,a?,a?,a?,a?,a?,a?,a?,a?,a?)",
        "z=(a|a|a|a|a|a|a|a|a|a|a|a|a|a|a|a)*;y=(((a|b|c|d|e|f|g|h)*),i)*",
        "z=[(d{12}){12}&(c{12}){12}&(b{12}){12}&(a{12}){12}],(x|x)",
        "z=[[a&b&c&d]&[e&f&g&h]&[i&j&k&l]&m];y=[[a&b&c&d]&[e&f&g&h]&[i&j&k&l]&m?]",
        "z=(a|b|c|d|e|f|g|h|i|j|k|l|m|n|o|p){0,12};y=(a|b|c|d|e|f|g|h|i|j|k|l|m|n|o|p)*",
        "a(b(c,d),e(f(g(h))))", "x(a,a,b)", "z", "abcabc", "aaaa", "a b c d e f", "a=(", "a(b"};

    private static Random random;

    private static int number() {
        int kind = random.nextInt(12);
        if (kind == 0) {
            return random.nextInt();
        }
        if (kind == 1) {
            return random.nextBoolean() ? Integer.MAX_VALUE : Integer.MIN_VALUE;
        }
        return random.nextInt(kind < 4 ? 30 : 6) - 1;
    }

    private static long call(ContentRules x, int which) {
        int a = number();
        int b = number();
        int c = number();
        int d = number();
        boolean flag = random.nextBoolean();
        switch (which) {
            case 0: return x.feed(a, b, c, d, number());
            case 1: return x.end(a) ? 1 : 0;
            case 2: return x.fault(a);
            case 3: return x.rules();
            case 4: return x.document();
            case 5:
                try {
                    return x.rule(a, b);
                } catch (NoSuchElementException e) {
                    return -12345;
                }
            case 6: return x.occurrence(a, b, c);
            case 7: return x.counted(a, b, c);
            case 8: return x.any(a, b, c);
            case 9: return x.witness(a, flag, b);
            case 10: return x.shown(a, flag, b);
            case 11: return x.shortest(a, b);
            case 12: return x.words(a, b);
            case 13: return x.reads(a);
            case 14: return x.read(a);
            case 15: return x.taken(a, b);
            case 16: return x.times(a);
            case 17: return x.parts(a);
            case 18: return x.mended(a);
            case 19: return x.unlike(a, b, c);
            case 20: return x.thing(a, b);
            case 21: return x.wrong(a);
            case 22: return x.message(a, b);
            case 23: return x.recount(a, b, c, d);
            case 24: return x.reletter(a, b, c);
            default: return x.count(a);
        }
    }

    private static void feed(ContentRules x, String text) {
        x.end(0);
        for (int at = 0; at < text.length(); at += 20) {
            int[] five = new int[5];
            for (int k = 0; k < 20 && at + k < text.length(); k++) {
                five[k / 4] |= text.charAt(at + k) << 24 - 8 * (k % 4);
            }
            x.feed(five[0], five[1], five[2], five[3], five[4]);
        }
    }

    private static long run(int seed) {
        random = new Random(seed);
        ContentRules x = new ContentRules();
        long sum = 0;
        for (int n = 0; n < CALLS; n++) {
            if (n == 0 || random.nextInt(40) == 0) {
                feed(x, TEXTS[random.nextInt(TEXTS.length)]);
                sum = sum * 31 + x.rules();
            } else if (random.nextInt(30) == 0) {
                feed(x, TEXTS[random.nextInt(TEXTS.length)]);
                sum = sum * 31 + x.document();
            } else if (random.nextInt(20) == 0) {
                feed(x, TEXTS[random.nextInt(TEXTS.length)]);
                sum = sum * 31 + x.reads(random.nextInt(3));
            } else {
                sum = sum * 31 + call(x, random.nextInt(26));
            }
        }
        return sum;
    }

    public static void main(String[] args) {
        int wrong = 0;
        com.sun.management.ThreadMXBean threads =
            (com.sun.management.ThreadMXBean) ManagementFactory.getThreadMXBean();
        long most = 0;
        for (int seed = 0; seed < RUNS; seed++) {
            try {
                long before = threads.getThreadAllocatedBytes(Thread.currentThread().getId());
                long once = run(seed);
                long made = threads.getThreadAllocatedBytes(Thread.currentThread().getId()) - before;
                // What this test itself makes: rows of five numbers, and exceptions of rule().
                if (seed > 20) {
                    most = Math.max(most, made);
                }
                if (once != run(seed)) {
                    wrong++;
                    System.out.println("run " + seed + " answers otherwise the second time");
                }
            } catch (RuntimeException e) {
                wrong++;
                System.out.println("run " + seed + " threw " + e);
                e.printStackTrace(System.out);
            }
        }
        System.out.println(RUNS + " runs of " + CALLS + " calls, " + most + " bytes made at most");
        if (most > MOST_BYTES) {
            wrong++;
            System.out.println("that is too much");
        }
        System.out.println(wrong == 0 ? "all answers are as due" : wrong + " answers are not as due");
        if (wrong != 0) {
            System.exit(1);
        }
    }
}
