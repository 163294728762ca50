/** Tables to ask about, and texts. */
final class Tables {
    private Tables() {
    }

    static void write(LieAlgebra x, String text) {
        for (int k = 0; k < text.length(); k++) {
            x.append(text.charAt(k));
        }
    }

    static int load(LieAlgebra x, String text) {
        x.clearText();
        write(x, text);
        return x.loadText();
    }

    static LieAlgebra table(int p, int n, String text) {
        LieAlgebra x = new LieAlgebra();
        x.configure(p, n);
        if (load(x, text) < 0) {
            throw new IllegalStateException("a test's own text is wrong: " + text);
        }
        return x;
    }

    static LieAlgebra abelian(int p, int n) {
        LieAlgebra x = new LieAlgebra();
        x.configure(p, n);
        return x;
    }

    /** Three vectors, the third spanning the center. */
    static LieAlgebra heisenberg(int p) {
        return table(p, 3, "[0,1]=e2;");
    }

    /** h, e, f with [h, e] = 2e, [h, f] = -2f, [e, f] = h, modulo 5. */
    static LieAlgebra simple() {
        return table(5, 3, "[0,1]=2e1;[0,2]=-2e2;[1,2]=e0;");
    }

    /** Solvable with levels 3, 2, 0 and a lower central series that stays at 2. */
    static LieAlgebra solvable() {
        return table(5, 3, "[0,1]=e1;[0,2]=2e2;");
    }

    /** Four vectors in a chain: nilpotent with levels 4, 2, 1, 0. */
    static LieAlgebra chain(int p) {
        return table(p, 4, "[0,1]=e2;[0,2]=e3;");
    }
}
