import java.io.IOException;

/** The bounds of promise 6: where a text may end, what may stand at each place, what an error leaves. */
public final class TextBoundsTest {
    private static final int FULL = Sentences.FULL;
    private static final int STATE = Sentences.STATE;
    private static final String TOKENS = "0123456789[],=+-e;";

    private final Sentences doc = new Sentences();

    private TextBoundsTest() throws IOException {
    }

    public static void main(String[] args) throws IOException {
        TextBoundsTest t = new TextBoundsTest();
        t.lengths();
        t.numbersOfItems();
        t.indices();
        t.factors();
        t.differentIndices();
        t.pairsGivenBefore();
        t.sumsOfTerms();
        t.tokens();
        t.spaces();
        t.firstError();
        t.whatMayStandAtEachPlace();
        t.secondIndex();
        t.zeroIsTheWholeValue();
        t.endsInsideAnItem();
        t.setsAndKeeps();
        t.errorsChangeNothing();
        t.doc.covers(6, 6);
        t.doc.end();
    }

    private void reads(int p, int n, String text, int items) {
        doc.due(told(p, n, text), Tables.load(Tables.abelian(p, n), text), items);
    }

    private void fails(int p, int n, String text, int position) {
        reads(p, n, text, -10 - position);
    }

    private static String told(int p, int n, String text) {
        return "(" + p + ", " + n + ") \"" + text + "\"";
    }

    private static String filled(String start, char filler, int length) {
        return start + String.valueOf(filler).repeat(length - start.length());
    }

    // ---- length and number

    private void lengths() {
        doc.says(6, "Brackets can be given by a text of at most 120 characters");
        String good = filled("[0,1]=e0", ' ', 119) + ";";
        reads(3, 3, good, 1);
        LieAlgebra x = Tables.abelian(3, 3);
        Tables.write(x, good);
        doc.due("the 121st character", x.append('x'), FULL);
        doc.due("it is not read", x.loadText(), 1);
        doc.due("the last character was read", x.bracket(1, 3), 1);
        fails(3, 3, filled("[0,1]=e0;", ' ', 119) + "x", 119);
        fails(3, 3, filled("[0,1]=e0;", ' ', 119) + "[", 120);
        fails(3, 3, filled("[0,1]=e0", ' ', 120), 120);
        fails(3, 3, filled("", ' ', 120), 120);
        fails(3, 3, filled("", ' ', 119) + ";", 119);
        reads(3, 3, filled("[0,1]=e0;", ' ', 120), 1);
        reads(3, 3, filled("", ' ', 111) + "[0,1]=e0;", 1);
    }

    private void numbersOfItems() {
        doc.says(6, "The text consists of one or more items");
        fails(3, 3, "", 0);
        fails(3, 3, " ", 1);
        fails(2, 1, "", 0);
        reads(3, 3, "[0,1]=0;", 1);
        doc.says(6, "Returns the number of items");
        for (int n = 2; n <= 5; n++) {
            StringBuilder text = new StringBuilder();
            int items = 0;
            for (int i = 0; i < n; i++) {
                for (int j = i + 1; j < n; j++) {
                    text.append('[').append(j).append(',').append(i).append("]=-e0;");
                    items++;
                    reads(7, n, text.toString(), items);
                }
            }
            fails(7, n, text + "[1,0]=0;", text.length() + 3);
        }
    }

    // ---- indices and factors

    private void indices() {
        doc.says(6, "An index is 0 to n - 1");
        for (int n = 2; n <= 5; n++) {
            for (int digit = 0; digit <= 9; digit++) {
                String other = digit == 0 ? "1" : "0";
                int answer = digit < n ? 1 : 0;
                reads(3, n, "[" + digit + "," + other + "]=0;", answer == 1 ? 1 : -10 - 1);
                reads(3, n, "[" + other + "," + digit + "]=0;", answer == 1 ? 1 : -10 - 3);
                reads(3, n, "[0,1]=e" + digit + ";", answer == 1 ? 1 : -10 - 7);
                reads(3, n, "[0,1]=e0-2e" + digit + ";", answer == 1 ? 1 : -10 - 11);
            }
            LieAlgebra x = Tables.table(7, n, "[0,1]=e" + (n - 1) + ";");
            doc.due("the last index, n = " + n, x.bracket(1, 7), Sentences.unit(7, n - 1));
        }
        fails(7, 1, "[0", 2);
        fails(7, 1, "[1", 1);
        fails(7, 1, "[0,0", 3);
        fails(7, 1, "[0,1", 3);
        fails(3, 3, "[-0,1]=0;", 1);
        fails(3, 3, "[0,-1]=0;", 3);
        fails(3, 3, "[0,1]=e-1;", 7);
    }

    private void factors() {
        doc.says(6, "and a factor is 1 to p - 1");
        for (int p : Sentences.PRIMES) {
            for (int digit = 1; digit <= 9; digit++) {
                boolean good = digit < p;
                reads(p, 2, "[0,1]=" + digit + "e1;", good ? 1 : -10 - 6);
                reads(p, 2, "[0,1]=-" + digit + "e1;", good ? 1 : -10 - 7);
                reads(p, 2, "[0,1]=e0+" + digit + "e1;", good ? 1 : -10 - 9);
                reads(p, 2, "[0,1]=e0-" + digit + "e1;", good ? 1 : -10 - 9);
                if (good) {
                    doc.due(digit + "e1", Tables.table(p, 2, "[0,1]=" + digit + "e1;").bracket(1, p), digit * p);
                    doc.due("-" + digit + "e1", Tables.table(p, 2, "[0,1]=-" + digit + "e1;").bracket(1, p),
                            (p - digit) * p);
                }
            }
            fails(p, 2, "[0,1]=0e1;", 7);
            fails(p, 2, "[0,1]=-0e1;", 7);
            fails(p, 2, "[0,1]=e0+0e1;", 9);
            fails(p, 2, "[0,1]=e0-0e1;", 9);
        }
    }

    private void differentIndices() {
        doc.says(6, "The two indices of a bracket must be different");
        for (int n = 1; n <= 5; n++) {
            for (int i = 0; i < n; i++) {
                fails(5, n, "[" + i + "," + i + "]=0;", 3);
                fails(5, n, "[" + i + " , " + i + "]=0;", 5);
            }
        }
    }

    private void pairsGivenBefore() {
        doc.says(6, "an item for the same two basis vectors (in either order) must not occur before");
        for (int i = 0; i < 5; i++) {
            for (int j = 0; j < 5; j++) {
                if (i != j) {
                    String item = "[" + i + "," + j + "]=e0;";
                    String turned = "[" + j + "," + i + "]=0;";
                    fails(2, 5, item + item, 12);
                    fails(2, 5, item + turned, 12);
                    fails(2, 5, turned + item, 11);
                    readsOthers(item, i, j);
                }
            }
        }
        reads(3, 3, "[0,1]=e0;[0,2]=e0;[1,2]=e0;", 3);
        fails(3, 3, "[0,1]=e0;[0,2]=e0;[1,2]=e0;[2,0]=e0;", 30);
        fails(3, 3, "[0,1]=e0;[0,2]=e0;[1,2]=e0;[2,0", 30);
        LieAlgebra x = Tables.table(3, 3, "[0,1]=e0;");
        doc.due("given in the text before", Tables.load(x, "[0,1]=e1;"), 1);
        doc.due("given in a text with an error", Tables.load(x, "[0,1]=e1;x"), -19);
        doc.due("and now in a good one", Tables.load(x, "[1,0]=e1;"), 1);
    }

    /** An item for every other pair may follow one for i and j. */
    private void readsOthers(String item, int i, int j) {
        for (int a = 0; a < 5; a++) {
            for (int b = 0; b < 5; b++) {
                boolean same = a == i && b == j || a == j && b == i;
                if (a != b && !same) {
                    reads(2, 5, item + "[" + a + "," + b + "]=e0;", 2);
                }
            }
        }
    }

    private void sumsOfTerms() {
        doc.says(6, "In a value, each basis vector may occur several times; the terms are added.");
        for (int p : Sentences.PRIMES) {
            StringBuilder up = new StringBuilder("e1");
            StringBuilder down = new StringBuilder("-e1");
            for (int terms = 1; terms <= 2 * p + 1; terms++) {
                LieAlgebra x = Tables.table(p, 2, "[0,1]=" + up + ";");
                doc.due("modulo " + p + ", " + up, x.bracket(1, p), terms % p * p);
                LieAlgebra y = Tables.table(p, 2, "[0,1]=" + down + ";");
                doc.due("modulo " + p + ", " + down, y.bracket(1, p), (p - terms % p) % p * p);
                up.append("+e1");
                down.append("-e1");
            }
            LieAlgebra z = Tables.table(p, 2, "[0,1]=e0-e1-e0+e1;");
            doc.due("modulo " + p + ", a sum 0", z.bracket(1, p), 0);
            int q = p - 1;
            LieAlgebra w = Tables.table(p, 2, "[0,1]=" + q + "e0+" + q + "e1+" + q + "e0+" + q + "e1;");
            doc.due("modulo " + p + ", twice p - 1", w.bracket(1, p), (p - 2) * (p + 1));
        }
        String longest = "[0,1]=e0" + "+e0".repeat(37) + ";";
        doc.due("120 characters", longest.length(), 120);
        LieAlgebra x = Tables.table(7, 2, longest);
        doc.due("38 terms", x.bracket(1, 7), 3);
    }

    // ---- characters

    private void tokens() {
        doc.says(6, "Tokens are single characters: digits, \"[\", \"]\", \",\", \"=\", \"+\", \"-\", \"e\" and \";\"");
        fails(3, 3, "[00,1]=0;", 2);
        fails(3, 3, "[0,11]=0;", 4);
        fails(3, 3, "[0,1]=e00;", 8);
        fails(7, 3, "[0,1]=11e0;", 7);
        fails(7, 3, "[0,1]=00;", 7);
        fails(3, 3, "[0,1]==e0;", 6);
        doc.says(6, "any other character except a space is never allowed");
        String text = "[0,1]=-2e1+e0;";
        for (int place = 0; place <= text.length(); place++) {
            for (int code = 0; code <= 255; code++) {
                if (code != ' ' && TOKENS.indexOf(code) < 0) {
                    fails(3, 3, text.substring(0, place) + (char) code + text.substring(place), place);
                }
            }
        }
    }

    private void spaces() {
        doc.says(6, "Spaces (code 32) may stand before, between and after tokens.");
        String text = "[0,1]=-2e1+e0;[2,0]=0;";
        StringBuilder wide = new StringBuilder(" ");
        for (int place = 0; place <= text.length(); place++) {
            for (int spaces = 1; spaces <= 120 - text.length(); spaces += 48) {
                reads(3, 3, text.substring(0, place) + " ".repeat(spaces) + text.substring(place), 2);
            }
            if (place < text.length()) {
                wide.append("  ").append(text.charAt(place));
            }
        }
        LieAlgebra x = Tables.table(3, 3, wide + "   ");
        doc.due("spaces everywhere", x.bracket(1, 3), 1 + 3);
        fails(3, 3, "\t[0,1]=e0;", 0);
        fails(3, 3, "[0,1]=e0;\n", 9);
        fails(3, 3, "[0,1]=e0;\u001f", 9);
        fails(3, 3, "[0,1]=e0;!", 9);
        fails(3, 3, "[0,1]=e0;\u00a0", 9);
    }

    private void firstError() {
        doc.says(6, "The error position is the offset (from 0) of the first character that is not allowed where it"
                + " stands");
        fails(3, 3, "x", 0);
        fails(3, 3, "xx", 0);
        fails(3, 3, "   x", 3);
        fails(3, 3, "[0,0]=e9;", 3);
        fails(3, 3, "[0,1]=e9;[0,0]=0;", 7);
        fails(3, 3, "[9,9]=9e9;", 1);
        fails(3, 3, "[0,1]=e0;  [0,1]=9;", 14);
        fails(3, 3, "[0,1]=e0;]", 9);
        doc.says(6, "The text is read from left to right.");
        fails(3, 3, "[0,1]=0;[0,2]=0;[0,1]=3e0;", 19);
        fails(3, 3, "[0,1]=0;[0,2]=3e0;[0,1]=0;", 14);
        fails(3, 3, "[0,1]=e0;[3,1]=e0;[0,1]", 10);
    }

    /** For each place of a text, the tokens that may stand there; a space may stand everywhere. */
    private void whatMayStandAtEachPlace() {
        doc.says(6, "value = \"0\" | [ \"-\" ] term { ( \"+\" | \"-\" ) term }");
        String[] sum = {"[", "012", ",", "12", "]", "=", "0-12e", "12e", "e", "012", "+-;", "12e", "012", "+-;", "["};
        everyCharacter("[0,1]=-2e1+e0;", sum);
        String[] plain = {"[", "012", ",", "01", "]", "=", "0-12e", "e", "012", "+-;", "["};
        everyCharacter("[2,0]=1e2;", plain);
        String[] zero = {"[", "012", ",", "02", "]", "=", "0-12e", ";", "["};
        everyCharacter("[1,2]=0;", zero);
    }

    private void everyCharacter(String text, String[] allowed) {
        doc.due("places of " + text, allowed.length, text.length() + 1);
        for (int place = 0; place <= text.length(); place++) {
            for (int code = 0; code <= 255; code++) {
                String cut = text.substring(0, place) + (char) code;
                boolean good = code == ' ' || allowed[place].indexOf(code) >= 0;
                boolean whole = code == ';' || code == ' ' && place == text.length();
                if (good && whole) {
                    reads(3, 3, cut, 1);
                } else {
                    fails(3, 3, cut, good ? place + 1 : place);
                }
            }
        }
    }

    private void secondIndex() {
        doc.says(6, "for the second index of a bracket this includes an index that equals the first one, and one with"
                + " which the item would be the second one for these basis vectors");
        fails(3, 3, "[2,2]=0;", 3);
        fails(3, 3, "[2,2", 3);
        fails(3, 3, "[2,", 3);
        fails(3, 3, "[2", 2);
        fails(3, 3, "  [  2  ,  2", 11);
        fails(3, 3, "[0,1]=0;[1,0]=0;", 11);
        fails(3, 3, "[0,1]=0;[0,1]=0;", 11);
        fails(3, 3, "[0,1]=0;[1,0", 11);
        fails(3, 3, "[0,1]=0;[1,", 11);
        fails(3, 3, "[0,1]=0;[1", 10);
        fails(2, 2, "[0,1]=0;[1,", 11);
        fails(2, 2, "[0,1]=0;[0,0]", 11);
        fails(2, 1, "[0,0]", 3);
        fails(2, 1, "[0,", 3);
    }

    private void zeroIsTheWholeValue() {
        doc.says(6, "a \"0\" at the beginning of a value is the whole value");
        for (int p : Sentences.PRIMES) {
            reads(p, 2, "[0,1]=0;", 1);
            reads(p, 2, "[0,1]= 0 ;", 1);
            for (char next : "0123456789[],=+-e".toCharArray()) {
                fails(p, 2, "[0,1]=0" + next, 7);
                fails(p, 2, "[0,1]=0 " + next + "e0;", 8);
            }
            fails(p, 2, "[0,1]=0", 7);
            fails(p, 2, "[0,1]=-0;", 7);
            fails(p, 2, "[0,1]=e0+0;", 9);
        }
    }

    private void endsInsideAnItem() {
        doc.says(6, "If the text ends inside an item or has no token, the error position is the length of the text.");
        String item = "[0,1]=-2e1+e0;";
        String before = "[0,2]=e0;";
        for (int length = 1; length < item.length(); length++) {
            String cut = item.substring(0, length);
            fails(3, 3, cut, length);
            fails(3, 3, cut + "   ", length + 3);
            fails(3, 3, before + cut, before.length() + length);
            fails(3, 3, before + "  " + cut + " ", before.length() + 3 + length);
        }
        for (int spaces = 0; spaces <= 120; spaces++) {
            fails(3, 3, " ".repeat(spaces), spaces);
        }
        for (int length = 0; length < item.length(); length++) {
            LieAlgebra x = Tables.abelian(3, 3);
            Tables.write(x, " ".repeat(120));
            doc.due("spaces behind the end, " + length, Tables.load(x, item.substring(0, length)), -10 - length);
            doc.due("the same text anew, " + length, Tables.load(x, item), 1);
            doc.due("the text before behind the end, " + length, Tables.load(x, item.substring(0, length)), -10 - length);
        }
        reads(3, 3, before, 1);
        reads(3, 3, before + " ", 1);
    }

    // ---- what a text changes

    private void setsAndKeeps() {
        doc.says(6, "Reads the text and sets the brackets that it gives; the other brackets stay.");
        LieAlgebra x = Tables.table(3, 3, "[0,1]=e0;[0,2]=e1;[1,2]=e2;");
        doc.due("one item", Tables.load(x, "[2,0]=0;"), 1);
        doc.due("[e0, e1] stays", x.bracket(1, 3), 1);
        doc.due("[e0, e2] is 0", x.bracket(1, 9), 0);
        doc.due("[e2, e0] is 0", x.bracket(9, 1), 0);
        doc.due("[e1, e2] stays", x.bracket(3, 9), 9);
        doc.says(6, "The text becomes empty.");
        doc.due("clearText()", x.clearText(), 0);
        Tables.load(x, "[0,1]=e1;");
        doc.due("loadText()", x.loadText(), -10);
        doc.due("append('[')", x.append('['), 1);
        Tables.load(x, filled("[0,1]=e1;", ' ', 120));
        doc.due("append('['), after a full text", x.append('['), 1);
        doc.due("only this is read", x.loadText(), -11);
    }

    private void errorsChangeNothing() {
        doc.says(6, "or -10 minus the error position if the text has an error (then nothing changes, and the text is"
                + " kept)");
        String[] texts = {"", "   ", "x", "[", "[0,1]=e0", "[0,1]=e0;x", "[0,1]=e0;[0,2]=e1;[1,2]=e9;",
            "[0,1]=e0;[0,1]=e1;", "[0,0]=0;", filled("[0,1]=e1;[0,2]=e2;", '[', 120)};
        int[] positions = {0, 3, 0, 1, 8, 9, 25, 12, 3, 19};
        for (int k = 0; k < texts.length; k++) {
            int answer = -10 - positions[k];
            doc.changesNothing(texts[k], with(texts[k]), with(texts[k]), answer, LieAlgebra::loadText);
            LieAlgebra x = with(texts[k]);
            for (int again = 0; again < 3; again++) {
                doc.due(texts[k] + ", read again", x.loadText(), answer);
            }
            doc.due(texts[k] + ", is kept", x.clearText(), texts[k].length());
        }
        LieAlgebra mended = Tables.abelian(3, 3);
        doc.due("not yet whole", Tables.load(mended, "[0,1]=e2"), -18);
        doc.due("append(';')", mended.append(';'), 9);
        doc.due("whole", mended.loadText(), 1);
        doc.due("it was read", mended.bracket(1, 3), 9);
        LieAlgebra fresh = new LieAlgebra();
        doc.due("an empty text", fresh.loadText(), -10);
        doc.due("nothing was saved", fresh.undo(), STATE);
    }

    /** A full object in which the text stands instead of its own. */
    private static LieAlgebra with(String text) {
        LieAlgebra x = Sentences.full(3, 3);
        x.clearText();
        Tables.write(x, text);
        return x;
    }
}
