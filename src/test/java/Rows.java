/** Calls written as rows, such as "event 3 7". */
final class Rows {
    private Rows() {
    }

    static long call(GuardNets x, String row) {
        return Calls.call(x, name(row), numbers(row));
    }

    static String name(String row) {
        return row.split(" ")[0];
    }

    static int[] numbers(String row) {
        String[] words = row.split(" ");
        int[] a = new int[words.length - 1];
        for (int i = 0; i < a.length; i++) a[i] = Integer.parseInt(words[i + 1]);
        return a;
    }

    /** The call is answered as the document told once more, slowly, answers it. */
    static void alike(String promise, GuardNets x, PlainGuardNets plain, String row) {
        Due.is(promise + " " + row, call(x, row), plain.call(name(row), numbers(row)));
    }

    /** Each row tells a call and its answer, as "event 3 7 = 1". */
    static void due(String promise, GuardNets x, String... rows) {
        for (String row : rows) {
            String[] sides = row.split(" = ");
            Due.is(promise + " " + sides[0], call(x, sides[0]), Long.parseLong(sides[1]));
        }
    }

    /** The call is refused so, and all that can be asked is as it was. */
    static void refused(String promise, GuardNets x, String row, int answer) {
        String before = state(x);
        Due.is(promise + " " + row, call(x, row), answer);
        Due.is(promise + " what stands behind " + row, state(x), before);
    }

    /** What stands in an object: the digest has no IMAGES and no FRACTION. */
    static String state(GuardNets x) {
        return x.digest() + " " + Due.fraction(x) + " " + x.differ(0) + " " + x.differ(1);
    }
}
