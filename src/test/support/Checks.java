import java.util.TreeSet;

/** Checks under the sentence of the document that they belong to. */
final class Checks {
    static final int BYTE = 0;
    static final int SHORT = 1;
    static final int INT = 2;
    static final int LONG = 3;
    static final int REFERENCE = 4;

    private static String sentence = "no sentence yet";
    private static int sentences = 0;
    private static int checks = 0;
    private static int wrong = 0;

    private Checks() {
    }

    /** What follows belongs to this sentence: the document's words, with '..' for a gap, perhaps after a call's name. */
    static void sentence(String words) {
        sentence = words;
        sentences++;
    }

    static void is(String what, long got, long due) {
        checks++;
        if (got != due) {
            wrong++;
            System.out.println("\"" + sentence + "\": " + what + ": answered " + got + ", due is " + due);
        }
    }

    static void yes(String what, boolean got) {
        is(what, got ? 1 : 0, 1);
    }

    static void no(String what, boolean got) {
        is(what, got ? 1 : 0, 0);
    }

    static void finish() {
        System.out.println(sentences + " sentences, " + checks + " checks, " + (wrong == 0 ? "all as due" : wrong + " not as due"));
        if (wrong != 0) {
            System.exit(1);
        }
    }

    /** The first numbers outside of a range on both ends, and those that a narrowed or wrapped number would bring into it. */
    static int[] outside(int low, int high) {
        TreeSet<Integer> found = new TreeSet<>();
        for (int by : new int[] {1, 2, 3, 6, 8, 10, 16, 32, 64, 128, 256, 1 << 15, 1 << 16, 1 << 24, 1 << 27, 1 << 28, 1 << 29, 1 << 30, 1 << 31}) {
            for (int from : new int[] {low, high}) {
                found.add(from + by);
                found.add(from - by);
            }
        }
        found.add(Integer.MAX_VALUE);
        found.add(Integer.MIN_VALUE);
        found.removeIf(n -> n >= low && n <= high);
        return found.stream().mapToInt(n -> n).toArray();
    }
}
