import java.util.Arrays;

/** Looks at the document sentence by sentence: each that is quoted must be followed by checks of its own. */
final class Edges {
    private static final int MOST_PRINTED = 100;

    private final Document document = new Document();
    private String section = "";
    private String words = "";
    private int checksOfSentence = 1;
    private int sentences = 0;
    private int checks = 0;
    private int wrong = 0;

    /** A sentence of a section of the document, word for word. */
    void says(String ofSection, String sentence) {
        endSentence();
        section = ofSection;
        words = sentence;
        checksOfSentence = 0;
        sentences++;
        if (!document.quote(ofSection, sentence)) {
            fault("the document does not say that");
        }
    }

    private void endSentence() {
        if (checksOfSentence == 0) {
            fault("nothing looks at that");
        }
    }

    private void fault(String what) {
        wrong++;
        if (wrong <= MOST_PRINTED) {
            System.out.println(section + ", \"" + words + "\": " + what);
        }
    }

    void due(String what, long got, long want) {
        checks++;
        checksOfSentence++;
        if (got != want) {
            fault(what + " answered " + got + ", due is " + want);
        }
    }

    void holds(String what, boolean so) {
        checks++;
        checksOfSentence++;
        if (!so) {
            fault("does not hold: " + what);
        }
    }

    /** A new object. */
    Asked fresh() {
        return new Asked(this);
    }

    /** A new object with a PROGRAM. */
    Asked of(String text) {
        Asked x = new Asked(this);
        if (x.load(text) <= 0) {
            fault("this can't be read: " + text);
        }
        return x;
    }

    /** Of a text: it is read, and has so many LINES. */
    Asked reads(String text, int lines) {
        Asked x = fresh();
        due("program() of " + text, x.load(text), lines);
        due("fault(0) of " + text, x.call("fault", 0), 0);
        due("fault(1) of " + text, x.call("fault", 1), -1);
        return x;
    }

    /** Of a text: it has a FAULT at a place. */
    void fails(String text, int fault, int place) {
        Asked x = fresh();
        due("program() of " + text, x.load(text), -4);
        due("fault(0) of " + text, x.call("fault", 0), fault);
        due("fault(1) of " + text, x.call("fault", 1), place);
    }

    /** One of a call's numbers (all are good): its least and its most are answered, what is beyond is refused. */
    void bounds(Asked x, long refusal, int which, long least, long most, String name, long... good) {
        long[] numbers = good.clone();
        long[] beyond = {least - 1, most + 1, Integer.MIN_VALUE, Integer.MAX_VALUE};
        for (long number : beyond) {
            numbers[which] = number;
            x.due(refusal, name, numbers);
        }
        for (long number : new long[] {least, most}) {
            numbers[which] = number;
            holds(name + Arrays.toString(numbers) + " is not refused", x.call(name, numbers) != refusal);
        }
    }

    /** A call that is refused if there is no PROGRAM: at first, if it was read from nothing, if an IMAGE has none. */
    void refusedWithoutProgram(long refusal, String name, long... numbers) {
        fresh().due(refusal, name, numbers);
        Asked x = of(TapeEdges.LOOP);
        x.acts(0, "T");
        x.load("");
        x.due(refusal, name, numbers);
        x = fresh();
        x.call("image", 0);
        x.load(TapeEdges.LOOP);
        x.call("back", 0);
        x.due(refusal, name, numbers);
    }

    /** All that was looked at; every word of the document must have been quoted if it is asked for. */
    void finish(boolean everyWord) {
        endSentence();
        checksOfSentence = 1;
        if (everyWord) {
            section = "the document";
            words = "";
            if (document.sections() != 65) {
                fault("it has " + document.sections() + " sections");
            }
            for (String rest : document.unquoted()) {
                fault("nothing looks at " + rest);
            }
        }
        System.out.println(sentences + " sentences, " + checks + " checks, " + wrong + " not as due");
        if (wrong > 0) {
            System.exit(1);
        }
    }
}
