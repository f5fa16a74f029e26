import java.util.ArrayList;
import java.util.Arrays;
import java.util.Collections;
import java.util.HashMap;
import java.util.List;
import java.util.Map;

/**
 * The terms for all inner lengths and all contents of at most nine numbers. They are the products of two Schur
 * functions in four variables, which are found here without lattice fillings: the terms of the second function
 * are added to the exponents of the first one, and these are brought into order with their sign.
 */
public final class AllTermsTest {
    private static final Checks CHECKS = new Checks();

    public static void main(String[] args) {
        List<int[]> contents = new ArrayList<>();
        for (int key = 0; key < 10_000; key++) {
            int[] content = {key / 1000, key / 100 % 10, key / 10 % 10, key % 10};
            if (Arrays.stream(content).sum() <= 9) {
                contents.add(content);
            }
        }
        for (int[] content : contents) {
            boolean isPartition = isPartition(content);
            Map<List<Integer>, Integer> schur = isPartition ? schur(content, 4) : Map.of();
            for (int key = 0; key < 10_000; key++) {
                int[] inner = {key / 1000, key / 100 % 10, key / 10 % 10, key % 10};
                if (inner[0] <= 5 && isPartition(inner)) {
                    compare(inner, content, product(inner, schur));
                }
            }
        }
        CHECKS.end("AllTermsTest");
    }

    private static boolean isPartition(int[] lengths) {
        return lengths[0] >= lengths[1] && lengths[1] >= lengths[2] && lengths[2] >= lengths[3];
    }

    /** The exponents of a Schur function in the first variables, with how often they come. */
    private static Map<List<Integer>, Integer> schur(int[] shape, int variables) {
        Map<List<Integer>, Integer> sum = new HashMap<>();
        if (variables == 0) {
            sum.put(List.of(), 1);
            return sum;
        }
        addBetween(shape, new int[variables - 1], 0, sum);
        return sum;
    }

    /** Takes the last variable's boxes away, at most one from each column. */
    private static void addBetween(int[] shape, int[] smaller, int row, Map<List<Integer>, Integer> sum) {
        if (row == smaller.length) {
            int last = Arrays.stream(shape).sum() - Arrays.stream(smaller).sum();
            schur(smaller, smaller.length).forEach((exponents, times) -> {
                List<Integer> longer = new ArrayList<>(exponents);
                longer.add(last);
                sum.merge(longer, times, Integer::sum);
            });
            return;
        }
        for (int length = shape[row + 1]; length <= shape[row]; length++) {
            smaller[row] = length;
            addBetween(shape, smaller, row + 1, sum);
        }
    }

    private static List<int[]> product(int[] inner, Map<List<Integer>, Integer> schur) {
        Map<List<Integer>, Integer> sum = new HashMap<>();
        schur.forEach((exponents, times) -> {
            List<Integer> shifted = new ArrayList<>();
            int sign = 1;
            for (int row = 0; row < 4; row++) {
                int exponent = inner[row] + exponents.get(row) + 3 - row;
                for (int before : shifted) {
                    sign *= Integer.compare(before, exponent);
                }
                shifted.add(exponent);
            }
            shifted.sort(Collections.reverseOrder());
            sum.merge(shifted, sign * times, Integer::sum);
        });
        List<int[]> terms = new ArrayList<>();
        sum.forEach((shifted, times) -> {
            if (times != 0) {
                terms.add(new int[] {shifted.get(0) - 3, shifted.get(1) - 2, shifted.get(2) - 1, shifted.get(3), times});
            }
        });
        terms.sort((one, other) -> Arrays.compare(other, one));
        return terms;
    }

    private static void compare(int[] inner, int[] content, List<int[]> want) {
        StringBuilder text = new StringBuilder("f");
        for (int length : inner) {
            text.append(Math.max(1, length));
        }
        text.append('/');
        Arrays.stream(inner).forEach(text::append);
        text.append(':');
        Arrays.stream(content).forEach(text::append);
        SkewBoard x = new SkewBoard();
        for (int k = 0; k < text.length(); k++) {
            x.letter(text.charAt(k));
        }
        CHECKS.isTrue("a board from " + text, x.board() >= 0);
        CHECKS.due("terms of " + text, x.terms(), want.size());
        for (int term = 0; term < want.size(); term++) {
            for (int what = 0; what < 5; what++) {
                CHECKS.due("term(" + term + ", " + what + ") of " + text, x.term(term, what), want.get(term)[what]);
            }
        }
    }
}
