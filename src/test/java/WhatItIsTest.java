/** The sentences of the document's first section, before the promises. */
public final class WhatItIsTest extends Boundary {
    private static final String DECLARES = "The user declares up to MAX_FUNCS functions and defines each by two rules, one per "
        + "constructor of its first argument, in primitive-recursive form, so a COMPLETE function always terminates in principle, "
        + "though NORMALIZE can still fail on its limits.";
    private static final String TACTICS = "A conjecture, an equation with free variables, is entered as a formula and is worked on "
        + "by a sequence of tactic calls: simp rewrites both sides of the top goal to normal form, induct splits the top goal into a "
        + "base case and a step case with an induction hypothesis, useHyp rewrites with that hypothesis, useLemma rewrites with a "
        + "PROVED formula used as a pattern, and generalize replaces a chosen subterm by a fresh variable.";
    private static final String CLOSES = "A goal closes only when a CLOSE-CHECK (done by simp, useHyp and useLemma, never by "
        + "conjecture, induct or generalize) finds its two sides identical; when the last goal closes the formula becomes PROVED and "
        + "is usable as a lemma.";
    private static final String EVALUATED = "Any formula can also be evaluated on concrete values of its variables, answering EQUAL, "
        + "DIFFERENT or UNKNOWN; UNKNOWN means a stated size or step limit was exceeded.";

    public static void main(String[] args) {
        functionsAndRules();
        completeFunctionsEnd();
        normalizeMayFail();
        everyTactic();
        closedBySimp();
        closedByUseHyp();
        closedByUseLemma();
        notClosedByConjectureOrInduct();
        notClosedByGeneralize();
        notClosedByReading();
        usableAsALemma();
        evaluated();
        end();
    }

    private static void functionsAndRules() {
        sentence(DECLARES);
        InductionProver x = new InductionProver();
        for (int f = 0; f < InductionProver.MAX_FUNCS; f++) {
            char letter = (char) ('F' + f);
            boolean list = f % 2 == 1;
            due("declare", x.declare(1, f % 2, 0), f);
            due("first rule", Checks.rule(x, letter + (list ? "N=Z" : "Z=Z")), OK);
            due("second rule", Checks.rule(x, letter + (list ? "Cap=Sa" : "Sa=a")), OK);
            due("funcInfo", x.funcInfo(f), 2 + 4 + 16 * (f % 2));
            refusedRule(x, letter + (list ? "N=SZ" : "Z=SZ"), DUP);
            refusedRule(x, letter + (list ? "Cbq=b" : "Sb=Sb"), DUP);
        }
        due("MAX_FUNCS and one more", x.declare(1, 0, 0), FULL);
    }

    /** A call on anything but what stands below the constructor could go on for ever, so it is no rule. */
    private static void completeFunctionsEnd() {
        sentence(DECLARES);
        InductionProver x = new InductionProver();
        x.declare(2, 0, 0);
        x.declare(2, 3, 1);
        for (String text : new String[] {"FZa=FZa", "FZa=FaZ", "FSab=FSab", "FSab=FSaZ", "FSab=FbSa", "FSab=SFZFab", "FSab=FFabb",
            "GNp=GNp", "GCapq=GCapq", "GCapq=Gqp", "GCapq=GGpqq"}) {
            refusedRule(x, text, FORM);
        }
        for (String text : new String[] {"FZa=a", "FSab=FaFab", "GNp=p", "GCapq=GpGpq"}) {
            due(text, Checks.rule(x, text), OK);
        }
        conjectured(x, "CFSSSSZZN=GCZCZCZCZNCZN");
        due("simp()", x.simp(), 0);
    }

    private static void normalizeMayFail() {
        sentence(DECLARES);
        InductionProver x = conjectured(Checks.theory(), "KSSSSSZ=Z");
        due("evaluate(0)", x.evaluate(0), UNKNOWN);
        unchanged(x, "simp()", () -> x.simp(), LIMIT);
    }

    private static void everyTactic() {
        sentence(TACTICS);
        InductionProver x = Checks.theory();
        due("conjecture()", Checks.conjecture(x, "HHJpqr=HJpHqr"), 0);
        dueGoal(x, 0, "HHJpqr=HJpHqr");
        due("generalize()", Checks.generalize(x, "Jp"), 1);
        dueGoal(x, 0, "HHsqr=HsHqr");
        due("induct(11)", x.induct(11), 2);
        dueGoal(x, 0, "HHNqr=HNHqr");
        dueGoal(x, 1, "HHCasqr=HCasHqr[HHsqr=HsHqr]");
        due("simp() of the base", x.simp(), 1);
        due("simp() of the step", x.simp(), 1);
        dueGoal(x, 0, "CaHHsqr=CaHsHqr[HHsqr=HsHqr]");
        due("useHyp(0)", x.useHyp(0), 0);
        due("status(0)", x.status(0), PROVED);
        dueFormula(x, 0, "HHJpqr=HJpHqr");
        due("conjecture()", Checks.conjecture(x, "CSbHHJCaNtHtw=q"), 1);
        due("useLemma(0, 0)", x.useLemma(0, 0), 1);
        dueGoal(x, 0, "CSbCaHtHtw=q");
    }

    private static void closedBySimp() {
        sentence(CLOSES);
        InductionProver x = conjectured(Checks.theory(), "FSab=SFab");
        due("goalCount()", x.goalCount(), 1);
        due("simp()", x.simp(), 0);
        due("status(0)", x.status(0), PROVED);
        conjectured(x, "FSab=SFba");
        due("the sides differ: simp()", x.simp(), 1);
        due("status(1)", x.status(1), ACTIVE);
    }

    private static void closedByUseHyp() {
        sentence(CLOSES);
        InductionProver x = atStep(Checks.theory(), "FaZ=a", 0);
        due("simp()", x.simp(), 1);
        due("status(0)", x.status(0), ACTIVE);
        due("useHyp(0)", x.useHyp(0), 0);
        due("status(0)", x.status(0), PROVED);
    }

    private static void closedByUseLemma() {
        sentence(CLOSES);
        InductionProver x = prove(Checks.theory(), "FSab=SFab");
        conjectured(x, "FSbc=SFbc");
        due("useLemma(0, 1)", x.useLemma(0, 1), 0);
        due("status(1)", x.status(1), PROVED);
    }

    private static void notClosedByConjectureOrInduct() {
        sentence(CLOSES);
        InductionProver x = conjectured(Checks.theory(), "Fab=Fab");
        due("status(0)", x.status(0), ACTIVE);
        due("goalCount()", x.goalCount(), 1);
        due("induct(0)", x.induct(0), 2);
        dueGoal(x, 0, "FZb=FZb");
        dueGoal(x, 1, "FSab=FSab[Fab=Fab]");
        due("status(0)", x.status(0), ACTIVE);
        due("simp(): one goal alone", x.simp(), 1);
        due("status(0)", x.status(0), ACTIVE);
        due("simp(): the last", x.simp(), 0);
        due("status(0)", x.status(0), PROVED);
    }

    private static void notClosedByGeneralize() {
        sentence(CLOSES);
        InductionProver x = conjectured(Checks.theory(), "Fab=c");
        due("generalize()", Checks.generalize(x, "Fab"), 1);
        dueGoal(x, 0, "d=c");
        conjectured(x, "FFabc=FFabc");
        due("generalize()", Checks.generalize(x, "FFabc"), 1);
        dueGoal(x, 0, "d=d");
        due("status(1)", x.status(1), ACTIVE);
        due("simp()", x.simp(), 0);
        due("status(1)", x.status(1), PROVED);
    }

    private static void notClosedByReading() {
        sentence(CLOSES);
        InductionProver x = conjectured(Checks.theory(), "a=a");
        unchanged(x, "evaluate(0)", () -> x.evaluate(0), EQUAL);
        unchanged(x, "status(0)", () -> x.status(0), ACTIVE);
        unchanged(x, "goalCount()", () -> x.goalCount(), 1);
        unchanged(x, "textChar(-1, 0, 0)", () -> x.textChar(-1, 0, 0), 'a');
        due("setVar(0, 3, 0)", x.setVar(0, 3, 0), true);
        due("feed", Checks.feed(x, "a=a"), 3);
        due("declare", x.declare(1, 0, 0), 6);
        due("goalCount()", x.goalCount(), 1);
        due("status(0)", x.status(0), ACTIVE);
    }

    private static void usableAsALemma() {
        sentence(CLOSES);
        InductionProver x = atStep(Checks.theory(), "FaZ=a", 0);
        unchanged(x, "useLemma(0, 0) of the ACTIVE", () -> x.useLemma(0, 0), ARG);
        x.simp();
        need("useHyp(0)", x.useHyp(0), 0);
        conjectured(x, "GSZFbZ=b");
        conjectured(x, "GbFbZ=Gbb");
        unchanged(x, "useLemma(1, 0) of the OPEN", () -> x.useLemma(1, 0), ARG);
        due("useLemma(0, 0) of the PROVED", x.useLemma(0, 0), 0);
    }

    private static void evaluated() {
        sentence(EVALUATED);
        InductionProver x = prove(Checks.theory(), "FSab=SFab");
        conjectured(x, "Fab=Ka");
        conjectured(x, "Gab=GSba");
        x.setVar(0, 2, 0);
        x.setVar(1, 2, 0);
        due("PROVED", x.evaluate(0), EQUAL);
        due("OPEN, 2 + 2 and 4", x.evaluate(1), EQUAL);
        due("ACTIVE, 2 * 2 and 3 * 2", x.evaluate(2), DIFFERENT);
        x.setVar(1, 3, 0);
        due("OPEN, 2 + 3 and 4", x.evaluate(1), DIFFERENT);
        x.setVar(0, 7, 0);
        due("OPEN, two to the seventh has more symbols than MAX_TEXT", x.evaluate(1), UNKNOWN);
        InductionProver y = conjectured(slow(), "Ga=Z");
        y.setVar(0, 5, 0);
        due("94 replacements", y.evaluate(0), EQUAL);
        y.setVar(0, 6, 0);
        due("190 replacements", y.evaluate(0), UNKNOWN);
    }
}
