/**
 * Texts, each cut off at every place and followed there by every character
 * from 0 to 255: the class and the model must find the same error position,
 * and set the same brackets where there is no error.
 */
public final class TextTest {
    private final Check check = new Check();

    public static void main(String[] args) {
        TextTest t = new TextTest();
        t.everyNext(3, 3, "[0,1]=e2;");
        t.everyNext(3, 3, " [ 2 , 1 ] = - 2 e 0 + e 1 ; [0,1]=0;");
        t.everyNext(2, 4, "[3,0]=1e1-e2;[0,1]=-e3;");
        t.everyNext(7, 5, "[4,3]=-6e0+3e4;[0,4]=0;[1,0]=e1-e1;");
        t.everyNext(5, 1, "[0,");
        t.everyNext(5, 2, "[1,0]=4e0-e1+e1;[0,");
        t.everyNext(3, 3, "[0,1]=0;[0,2]=0;[1,2]=0;[2,");
        t.everyPair(3, 3, "[0,1]=2e2;");
        t.everyPair(2, 2, "[1,0]=e1;[0,");
        t.check.end();
    }

    private void everyNext(int p, int n, String text) {
        for (int cut = 0; cut <= text.length(); cut++) {
            for (int ch = 0; ch <= 255; ch++) {
                compare(p, n, text.substring(0, cut) + (char) ch);
                compare(p, n, text.substring(0, cut) + (char) ch + text.substring(cut));
            }
            compare(p, n, text.substring(0, cut));
        }
    }

    /** Two signs put in at every place. */
    private void everyPair(int p, int n, String text) {
        String signs = "[],=+-e;0123 x";
        for (int cut = 0; cut <= text.length(); cut++) {
            for (int a = 0; a < signs.length(); a++) {
                for (int b = 0; b < signs.length(); b++) {
                    String middle = "" + signs.charAt(a) + signs.charAt(b);
                    compare(p, n, text.substring(0, cut) + middle + text.substring(cut));
                }
            }
        }
    }

    private void compare(int p, int n, String text) {
        LieAlgebra x = new LieAlgebra();
        Model m = new Model();
        x.configure(p, n);
        m.configure(p, n);
        for (int k = 0; k < text.length(); k++) {
            x.append(text.charAt(k));
            m.append(text.charAt(k));
        }
        String told = "(" + p + ", " + n + ") \"" + text + "\"";
        check.due(told, x.loadText(), m.loadText());
        int u = 1;
        for (int i = 0; i < n; i++) {
            int v = 1;
            for (int j = 0; j < n; j++) {
                check.due(told + " bracket", x.bracket(u, v), m.bracket(u, v));
                v *= p;
            }
            u *= p;
        }
        check.due(told + " undo()", x.undo(), m.undo());
        check.due(told + " clearText()", x.clearText(), m.clearText());
    }
}
