/** Holds answers against those that are due; each under the sentence of the document that asks for it. */
final class Check {
    private static int wrong = 0;
    private static int held = 0;
    private static String sentence = "";

    private Check() { }

    /** What comes next is asked by this sentence of the document. */
    static void sentence(String words) {
        sentence = words;
    }

    static void due(String call, long got, long want) {
        held++;
        if (got != want) {
            wrong++;
            if (wrong <= 50) {
                System.out.println("\"" + sentence + "\": " + call + " answered " + got + ", due is " + want);
            }
        }
    }

    static void same(String call, long[] got, long[] want) {
        int at = 0;
        while (at < got.length && at < want.length && got[at] == want[at]) {
            at++;
        }
        due(call + ", how much is alike", at, want.length);
        due(call + ", how many answers", got.length, want.length);
    }

    static void end() {
        System.out.println(wrong == 0 ? held + " answers are as due" : wrong + " answers are not as due");
        if (wrong != 0) {
            System.exit(1);
        }
    }
}
