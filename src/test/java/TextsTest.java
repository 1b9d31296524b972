import java.util.ArrayList;
import java.util.List;

/** Promises 4 and 5 once more: good texts with one token changed, read as NaiveMulticast reads them. */
public final class TextsTest {
    private static final Checks CHECKS = new Checks("TextsTest");
    private static final String GOOD = "nodes 3 ; link 0 1 capacity 5 delay 2 ; link 1 2 capacity 6 delay 3 ; cpu 1 7 ; cpu 0 8 ; "
            + "native 1 2 ; format 3 rates 4 5 ; format 6 rates 7 8 ;";
    private static final String[] TOKENS = {"nodes", "link", "capacity", "delay", "cpu", "native", "format", "rates", "x", ";", ",", "0", "1", "2",
        "3", "16", "17", "99", "100", "999", "1000", "9999", "00001", "native 1 ;", "link 0 2 capacity 1 delay 1 ;", "cpu 2 1 ;",
        "format 1 rates 1 1 ;"};

    public static void main(String[] args) {
        String[] good = GOOD.split(" ");
        for (int i = 0; i <= good.length; i++) {
            compare(joined(good, i, i, ""));
            for (String token : TOKENS) {
                compare(joined(good, i, i, token));
                if (i < good.length) {
                    compare(joined(good, i, i + 1, token));
                }
            }
            if (i < good.length) {
                compare(joined(good, i, i + 1, ""));
                compare(joined(good, i, good.length, ""));
                compare(joined(good, i, i, good[i]));
            }
        }
        CHECKS.end();
    }

    /** The tokens with those from one index to another replaced, between single spaces. */
    private static String joined(String[] tokens, int from, int to, String instead) {
        List<String> all = new ArrayList<>();
        for (int i = 0; i < tokens.length; i++) {
            if (i == from && !instead.isEmpty()) {
                all.add(instead);
            }
            if (i < from || i >= to) {
                all.add(tokens[i]);
            }
        }
        if (from == tokens.length && !instead.isEmpty()) {
            all.add(instead);
        }
        return String.join(" ", all);
    }

    private static void compare(String text) {
        LayeredMulticast real = new LayeredMulticast();
        NaiveMulticast naive = new NaiveMulticast();
        Checks.feed(real, text);
        int at = 0;
        for (; at < text.length(); at += 20) {
            int[] w = Checks.words(text, at);
            naive.append(w[0], w[1], w[2], w[3], w[4]);
        }
        naive.truncate(at - text.length());
        CHECKS.due("load of " + text, real.load(), naive.load());
        CHECKS.due("errorPosition of " + text, real.errorPosition(), naive.errorPosition());
        CHECKS.due("what is there after " + text, numbers(real), numbers(naive));
    }

    private static String numbers(LayeredMulticast x) {
        return x.nodes() + " " + x.links() + " " + x.formats() + " " + x.layers() + " " + x.capacity(1) + " " + x.linkBetween(1, 2)
                + " " + x.rate(1, 2) + " " + x.rate(2, 1);
    }

    private static String numbers(NaiveMulticast x) {
        return x.nodes() + " " + x.links() + " " + x.formats() + " " + x.layers() + " " + x.capacity(1) + " " + x.linkBetween(1, 2)
                + " " + x.rate(1, 2) + " " + x.rate(2, 1);
    }
}
