/** Counts what is as due and prints what is not. */
final class Check {
    private int right;
    private int wrong;

    void same(String call, long got, long due) {
        if (got == due) {
            right++;
            return;
        }
        wrong++;
        if (wrong <= 40) {
            System.out.println(call + " answered " + got + ", due is " + due);
        }
    }

    void holds(String what, boolean so) {
        same(what, so ? 1 : 0, 1);
    }

    int wrong() {
        return wrong;
    }

    int looks() {
        return right + wrong;
    }

    void close() {
        System.out.println(right + " as due, " + wrong + " not");
        if (wrong != 0 || right == 0) {
            System.exit(1);
        }
    }
}
