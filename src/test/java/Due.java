import java.math.BigInteger;

/** Counts and prints what is not as it is due. */
final class Due {
    private static int asked = 0;
    private static int wrong = 0;

    private Due() {
    }

    static void is(String what, long got, long want) {
        asked++;
        if (got == want) return;
        wrong++;
        System.out.println(what + " answered " + got + ", due is " + want);
    }

    static void is(String what, String got, String want) {
        asked++;
        if (got.equals(want)) return;
        wrong++;
        System.out.println(what + " is " + got + ", due is " + want);
    }

    static void end() {
        System.out.println(wrong == 0 ? "all " + asked + " answers are as due" : wrong + " of " + asked + " answers are not as due");
        if (wrong != 0) System.exit(1);
    }

    /** An object with NETS of these TEXTS from 0 on. */
    static GuardNets with(String... texts) {
        GuardNets x = new GuardNets();
        for (int net = 0; net < texts.length; net++) is("make " + texts[net], put(x, net, texts[net]), 0);
        return x;
    }

    static int put(GuardNets x, int net, String text) {
        text(x, text);
        return x.make(net);
    }

    static void text(GuardNets x, String text) {
        x.erase();
        for (int i = 0; i < text.length(); i++) x.write(text.charAt(i));
    }

    static int set(String letters) {
        int set = 0;
        for (int i = 0; i < letters.length(); i++) set |= 1 << letters.charAt(i) - 'a';
        return set;
    }

    /** THE FRACTION, as 37/160. */
    static String fraction(GuardNets x) {
        return number(x, 0) + "/" + number(x, 1);
    }

    private static BigInteger number(GuardNets x, int part) {
        BigInteger v = BigInteger.ZERO;
        for (int i = x.limbs(part) - 1; i >= 0; i--) v = v.shiftLeft(30).add(BigInteger.valueOf(x.limb(part, i)));
        return v;
    }
}
