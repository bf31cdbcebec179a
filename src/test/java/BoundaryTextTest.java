/** "Terms and text", as far as it says what a text is; its NORMALIZE and REPLACE have tests of their own. */
public final class BoundaryTextTest extends Boundary {
    public static void main(String[] args) {
        noBlanks();
        constructors();
        variables();
        functionLetters();
        arguments();
        oneEqualSign();
        everyOtherByte();
        oneTermASide();
        argumentSorts();
        sideSorts();
        wellFormedTerm();
        equalTerms();
        complete();
        redex();
        end();
    }

    private static void noBlanks() {
        sentence("Terms are prefix text, one byte per symbol, no blanks:");
        InductionProver x = new InductionProver();
        for (String text : new String[] {" a=a", "a =a", "a= a", "a=a ", "S a=a", "a=\ta", "a=a\n", "aS=a", "a=ZS", "ZNC=N"}) {
            refusedConjecture(x, text, SYNTAX);
        }
        due("conjecture()", Checks.conjecture(x, "a=a"), 0);
    }

    private static void constructors() {
        sentence("'Z' zero (nat); 'S' t successor (t nat; result nat). - 'N' empty list (list); 'C' h t cons (h nat, "
            + "t list; result list).");
        InductionProver x = new InductionProver();
        String[] right = {"Z=a", "SZ=a", "SSa=b", "N=p", "CZN=p", "CSaCbq=p"};
        for (int k = 0; k < right.length; k++) {
            due("conjecture() of " + right[k], Checks.conjecture(x, right[k]), k);
        }
        for (String text : new String[] {"Z=p", "SZ=p", "N=a", "CZN=a", "SN=a", "SN=p", "CNN=p", "CZZ=p", "CNZ=p", "ZZ=a", "NN=p", "C=p", "S=a"}) {
            refusedConjecture(x, text, SYNTAX);
        }
    }

    private static void variables() {
        sentence("'a'..'h' nat variables, numbered 0..7; 'p'..'w' list variables, numbered 8..15.");
        for (int v = 0; v < 16; v++) {
            char letter = (char) (v < 8 ? 'a' + v : 'p' + v - 8);
            InductionProver x = new InductionProver();
            due("conjecture() of " + letter, Checks.conjecture(x, letter + (v < 8 ? "=Z" : "=N")), 0);
            for (int other = 0; other < 16; other++) {
                x.setVar(other, 1, 0);
                due(letter + " with " + other + " set", x.evaluate(0), other == v ? DIFFERENT : EQUAL);
                x.setVar(other, 0, 0);
            }
            due("induct(" + v + ") on " + letter, x.induct(v), 2);
        }
        for (char letter : new char[] {'`', 'i', 'o', 'x', 'A', 'P', 'W'}) {
            refusedConjecture(new InductionProver(), letter + "=Z", SYNTAX);
            refusedConjecture(new InductionProver(), letter + "=N", SYNTAX);
        }
    }

    private static void functionLetters() {
        sentence("'F','G','H','I','J','K','L','M' are functions 0..7; only declared ones are symbols.");
        InductionProver x = new InductionProver();
        for (int declared = 0; declared <= 8; declared++) {
            for (int f = 0; f < 8; f++) {
                // Without rules, a well-formed equation is refused for that alone.
                refusedConjecture(x, (char) ('F' + f) + "Z=Z", f < declared ? FORM : SYNTAX);
            }
            x.declare(1, 0, 0);
        }
        refusedConjecture(x, "EZ=Z", SYNTAX);
        refusedConjecture(x, "NZ=Z", SYNTAX);
        refusedConjecture(x, "OZ=Z", SYNTAX);
        refusedConjecture(x, "fZ=Z", SYNTAX);
    }

    private static void arguments() {
        sentence("A function letter is followed by arity-many argument terms of the declared argument sorts.");
        InductionProver x = new InductionProver();
        x.declare(1, 0, 0);
        x.declare(2, 2, 0);
        x.declare(3, 5, 0);
        String[] fit = {"FZ", "FSa", "FFb", "GZN", "GaCbp", "HNZN", "HCZNaw"};
        for (String term : fit) {
            refusedConjecture(x, term + "=Z", FORM);
        }
        String[] tooFew = {"F", "G", "GZ", "H", "HN", "HNZ", "FF", "SF"};
        String[] tooMany = {"FZZ", "FaN", "GZNZ", "GZNN", "HNZNN", "HNZNZ"};
        String[] otherSort = {"FN", "Fp", "GNN", "GZZ", "Gpp", "HZZN", "HNNN", "HNZZ", "HaZN", "GFNN"};
        for (String[] terms : new String[][] {tooFew, tooMany, otherSort}) {
            for (String term : terms) {
                refusedConjecture(x, term + "=Z", SYNTAX);
                refusedConjecture(x, "Z=" + term, SYNTAX);
            }
        }
    }

    private static final String EQUATION = "A text is a WELL-FORMED EQUATION when it holds exactly one '=', every "
        + "other byte is a symbol, each side is exactly one term, every argument has the sort its place demands, and "
        + "both sides have the same sort.";

    private static void oneEqualSign() {
        sentence(EQUATION);
        InductionProver x = new InductionProver();
        String[] none = {"", "Z", "ZZ", "ZZZ"};
        String[] more = {"==", "Z==Z", "=Z=Z", "Z=Z=", "Z=Z=Z", "===", "Z=Z=Z=Z", "Z===Z"};
        for (String[] texts : new String[][] {none, more}) {
            for (String text : texts) {
                refusedConjecture(x, text, SYNTAX);
                refusedRule(x, text, SYNTAX);
            }
        }
        due("one '='", Checks.conjecture(x, "Z=Z"), 0);
    }

    private static void everyOtherByte() {
        sentence(EQUATION);
        for (int b = 1; b < 256; b++) {
            char c = (char) b;
            boolean nat = c == 'Z' || c >= 'a' && c <= 'h';
            boolean list = c == 'N' || c >= 'p' && c <= 'w';
            InductionProver x = new InductionProver();
            due("conjecture() with byte " + b, Checks.conjecture(x, "CZ" + c + "=N"), list ? 0 : SYNTAX);
            x = new InductionProver();
            due("conjecture() with byte " + b, Checks.conjecture(x, "Z=S" + c), nat ? 0 : SYNTAX);
            x = new InductionProver();
            due("conjecture() beginning with byte " + b, Checks.conjecture(x, c + "=Z"), nat ? 0 : SYNTAX);
        }
        noByteStandsForArguments();
    }

    /** F, G and H take one, two and three numbers, I, J and K as many lists; a byte stands for the arguments still due. */
    private static void noByteStandsForArguments() {
        InductionProver x = new InductionProver();
        for (int f = 0; f < 6; f++) {
            x.declare(f % 3 + 1, f < 3 ? 0 : 7, 0);
        }
        for (int b = 1; b < 256; b++) {
            char c = (char) b;
            boolean nat = c == 'Z' || c >= 'a' && c <= 'h';
            boolean list = c == 'N' || c >= 'p' && c <= 'w';
            for (int f = 0; f < 6; f++) {
                for (int given = 0; given <= f % 3 + 1; given++) {
                    String term = (char) ('F' + f) + (f < 3 ? "a" : "p").repeat(given) + c;
                    boolean fits = given == f % 3 && (f < 3 ? nat : list);
                    refusedConjecture(x, term + "=Z", fits ? FORM : SYNTAX);
                    refusedConjecture(x, "Z=" + term, fits ? FORM : SYNTAX);
                }
            }
        }
    }

    private static void oneTermASide() {
        sentence(EQUATION);
        InductionProver x = new InductionProver();
        String[] wrong = {"=", "=Z", "Z=", "ZZ=Z", "Z=ZZ", "ZZ=ZZ", "S=S", "S=Z", "Z=S", "SZZ=SZ", "SZ=SZZ", "CZ=N", "N=CZ", "C=N",
            "CZNN=N", "N=CZNN", "NN=N", "aa=a", "a=aa"};
        for (String text : wrong) {
            refusedConjecture(x, text, SYNTAX);
            refusedRule(x, text, SYNTAX);
        }
    }

    private static void argumentSorts() {
        sentence(EQUATION);
        InductionProver x = new InductionProver();
        String[] wrong = {"SN=Z", "Sp=Z", "SCZN=Z", "CNN=N", "CZZ=N", "CZa=N", "CpN=N", "CSNN=N", "CZSZ=N", "CZCNN=N", "CCZNN=N"};
        for (String text : wrong) {
            refusedConjecture(x, text, SYNTAX);
        }
        due("every sort fits", Checks.conjecture(x, "CSSaCZCbp=N"), 0);
    }

    private static void sideSorts() {
        sentence(EQUATION);
        InductionProver x = new InductionProver();
        String[] wrong = {"Z=N", "N=Z", "a=p", "p=a", "SZ=CZN", "CZN=SZ", "h=w", "w=h"};
        for (String text : wrong) {
            refusedConjecture(x, text, SYNTAX);
            refusedRule(x, text, SYNTAX);
        }
        due("numbers", Checks.conjecture(x, "Z=a"), 0);
        due("lists", Checks.conjecture(x, "p=N"), 1);
    }

    private static void wellFormedTerm() {
        sentence("A text is a WELL-FORMED TERM when it holds no '=' and is exactly one such term.");
        InductionProver x = conjectured(Checks.theory(), "FaZ=SFaZ");
        String[] wrong = {"", "=", "==", "Z=", "=Z", "Z=Z", "FaZ=FaZ", "ZZ", "FaZZ", "Fa", "S", "F", "SN", "FaN", "x", "LZ", "EZ"};
        for (String text : wrong) {
            refusedGeneralize(x, text, SYNTAX);
        }
        due("generalize() of FaZ", Checks.generalize(x, "FaZ"), 1);
        dueGoal(x, 0, "b=Sb");
        longestTerm();
    }

    private static void longestTerm() {
        InductionProver x = atStep(Checks.theory(), "GaFaS" + s(39) + "a=Z", 0);
        String left = "GSaFSaS" + s(40) + "a";
        need("length of the step's left side", left.length(), 48);
        dueGoal(x, 0, left + "=Z[GaFaS" + s(39) + "a=Z]");
        refusedGeneralize(x, s(48), SYNTAX);
        refusedGeneralize(x, s(47) + "N", SYNTAX);
        refusedGeneralize(x, s(47) + "Z", NOMATCH);
        due("generalize() of 48 symbols", Checks.generalize(x, left), 1);
        dueGoal(x, 0, "b=Z[GaFaS" + s(39) + "a=Z]");
    }

    private static void equalTerms() {
        sentence("Terms are equal when identical as symbol sequences.");
        String[] apart = {"Fab=Fba", "FaZ=a", "a=b", "a=Sa", "SSSa=SSSb", "Sa=SSa", "SSa=Sa", "FaFbc=FFabc", "CaN=CbN", "p=q"};
        for (String text : apart) {
            InductionProver x = conjectured(Checks.theory(), text);
            due("simp() of " + text, x.simp(), 1);
            dueGoal(x, 0, text);
        }
        String[] same = {"Fab=Fab", "a=a", "Z=Z", "N=N", "w=w", "FaFbc=FaFbc", s(22) + "a=" + s(22) + "a"};
        for (String text : same) {
            due("simp() of " + text, conjectured(Checks.theory(), text).simp(), 0);
        }
    }

    private static void complete() {
        sentence("A function is COMPLETE when it has both of its rules (one per constructor of its first argument "
            + "sort).");
        String[][] rules = {{"FZ=Z", "FSa=a"}, {"FSa=a", "FZ=Z"}};
        String[][] listRules = {{"FN=Z", "FCap=a"}, {"FCap=a", "FN=Z"}};
        for (int list = 0; list < 2; list++) {
            for (String[] pair : list == 0 ? rules : listRules) {
                String text = list == 0 ? "Fa=Z" : "Fp=Z";
                InductionProver x = new InductionProver();
                x.declare(1, list, 0);
                refusedConjecture(x, text, FORM);
                due(pair[0], Checks.rule(x, pair[0]), OK);
                refusedConjecture(x, text, FORM);
                refusedRule(x, pair[0], DUP);
                refusedConjecture(x, text, FORM);
                due(pair[1], Checks.rule(x, pair[1]), OK);
                due("conjecture() of " + text, Checks.conjecture(x, text), 0);
            }
        }
    }

    private static void redex() {
        sentence("A REDEX is an occurrence of a function symbol whose first argument begins with Z, S, N or C.");
        String[][] reduced = {{"FZb", "b"}, {"FSab", "SFab"}, {"FaFZb", "Fab"}, {"FFZab", "Fab"}, {"SFZb", "Sb"}, {"FIpFZb", "FIpb"},
            {"IN", "Z"}, {"ICap", "SIp"}, {"IHNp", "Ip"}, {"IHCapq", "SIHpq"}, {"KZ", "SZ"}};
        for (String[] pair : reduced) {
            InductionProver x = conjectured(Checks.theory(), pair[0] + "=h");
            due("simp() of " + pair[0], x.simp(), 1);
            dueGoal(x, 0, pair[1] + "=h");
        }
        String[] normal = {"Fab", "FaZ", "FaSb", "FFabZ", "FFabSZ", "FIpZ", "Ip", "IHpN", "IHpCaN", "IJHpq", "Ka", "KFaZ", "SSZ", "a"};
        for (String term : normal) {
            InductionProver x = conjectured(Checks.theory(), term + "=h");
            due("simp() of " + term, x.simp(), 1);
            dueGoal(x, 0, term + "=h");
        }
    }
}
