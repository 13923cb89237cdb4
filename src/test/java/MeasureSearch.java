import java.util.ArrayDeque;
import java.util.Arrays;

/** Promise 15 against a search over all that two jugs can hold, for all brims and all v. */
public final class MeasureSearch {
    private static final int NONE = -1000000005;

    public static void main(String[] args) {
        int wrong = 0;
        for (int a = 1; a <= 99; a++) {
            for (int b = 1; b <= 99; b++) {
                int[] due = fewestSteps(a, b);
                JugMemory x = new JugMemory();
                x.jug(a % 6, a, 0, 0);
                x.jug(b % 6, b, 0, b / 2);
                for (int v = 0; v <= 99; v++) {
                    int got = x.measure(0, 1, v);
                    if (got != due[v]) {
                        wrong++;
                        System.out.println("brims " + a + ", " + b + " for " + v + " answered " + got + ", due is " + due[v]);
                    }
                }
            }
        }
        System.out.println(wrong + " measures not as due");
        if (wrong != 0) {
            System.exit(1);
        }
    }

    private static int[] fewestSteps(int a, int b) {
        int[] fewest = new int[100];
        Arrays.fill(fewest, NONE);
        int[][] steps = new int[a + 1][b + 1];
        for (int[] row : steps) {
            Arrays.fill(row, -1);
        }
        ArrayDeque<int[]> open = new ArrayDeque<>();
        steps[0][0] = 0;
        open.add(new int[] {0, 0});
        while (!open.isEmpty()) {
            int[] s = open.remove();
            for (int v : s) {
                if (fewest[v] == NONE) {
                    fewest[v] = steps[s[0]][s[1]];
                }
            }
            int there = Math.min(s[0], b - s[1]);
            int here = Math.min(s[1], a - s[0]);
            int[][] next = {{a, s[1]}, {s[0], b}, {0, s[1]}, {s[0], 0}, {s[0] - there, s[1] + there}, {s[0] + here, s[1] - here}};
            for (int[] n : next) {
                if (steps[n[0]][n[1]] < 0) {
                    steps[n[0]][n[1]] = steps[s[0]][s[1]] + 1;
                    open.add(n);
                }
            }
        }
        return fewest;
    }
}
