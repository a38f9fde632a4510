import java.nio.charset.StandardCharsets;

/** What the tests share. In a source a ^ (which is not fed) marks the place that is due: the word behind it. */
final class Check {
    static final int NONE = TaggedPascal.NONE;
    private static int wrong;

    private Check() {
    }

    static void due(String what, long got, long want) {
        if (got != want) {
            wrong++;
            System.out.println(what + ": answered " + got + ", due is " + want);
        }
    }

    static void due(String what, String got, String want) {
        if (!got.equals(want)) {
            wrong++;
            System.out.println(what + ": answered <" + got + ">, due is <" + want + ">");
        }
    }

    static void finish() {
        if (wrong > 0) {
            System.out.println(wrong + " wrong");
            System.exit(1);
        }
    }

    /** Feeds all bytes of a text, in pieces of different lengths. */
    static void feed(TaggedPascal machine, String text) {
        byte[] bytes = text.getBytes(StandardCharsets.ISO_8859_1);
        int at = 0;
        int piece = 8;
        while (at < bytes.length) {
            int n = Math.min(piece, bytes.length - at);
            long packed = 0;
            for (int i = 0; i < n; i++) {
                packed |= (bytes[at + i] & 255L) << (8 * i);
            }
            at += n;
            due("feed of " + n, machine.feed(n, packed), at);
        }
    }

    static TaggedPascal compiled(String source) {
        TaggedPascal machine = new TaggedPascal();
        feed(machine, source);
        if (machine.compile() == NONE) {
            due("fault of " + source, machine.fault(), 0);
            due("place of " + source, machine.place(), NONE);
        }
        return machine;
    }

    static TaggedPascal compiled(String source, String input) {
        TaggedPascal machine = compiled(source);
        machine.wipe();
        feed(machine, input);
        due("input", machine.input(), input.length());
        return machine;
    }

    static void accepts(int routines, String source) {
        TaggedPascal machine = new TaggedPascal();
        feed(machine, source);
        due("compile of " + source, machine.compile(), routines);
        due("fault of " + source, machine.fault(), 0);
        due("place of " + source, machine.place(), NONE);
    }

    static void accepts(String source) {
        accepts(0, source);
    }

    static void refuses(int fault, String marked) {
        int place = marked.indexOf('^');
        String source = marked.replace("^", "");
        while (place < source.length() && source.charAt(place) == ' ') {
            place++;
        }
        refusesAt(fault, place, source);
    }

    /** For sources whose place is better told by its number. */
    static void refusesAt(int fault, int place, String source) {
        TaggedPascal machine = new TaggedPascal();
        feed(machine, source);
        due("compile of " + source, machine.compile(), NONE);
        due("fault of " + source, machine.fault(), fault);
        due("place of " + source, machine.place(), place);
    }

    /** Eight bytes a call: an object is good for 512 calls. */
    static String output(TaggedPascal machine) {
        StringBuilder text = new StringBuilder();
        int written = machine.written();
        for (int i = 0; i < written; i += 8) {
            long eight = machine.text(i);
            for (int k = 0; k < 8 && i + k < written; k++) {
                text.append((char) (eight >>> (8 * k) & 255));
            }
        }
        return text.toString();
    }

    /** Runs a marked source to its end or error, and looks at all but told. */
    static TaggedPascal runs(int answer, String marked, String input, String written) {
        TaggedPascal machine = compiled(marked.replace("^", ""), input);
        due("run of " + marked, machine.run(20000), answer);
        due("where of " + marked, machine.where(), marked.indexOf('^'));
        due("output of " + marked, output(machine), written);
        return machine;
    }

    static TaggedPascal runs(int answer, String marked) {
        return runs(answer, marked, "", "");
    }

    static void writes(String source, String written) {
        runs(0, source, "", written);
    }

    /** Runs with so many steps and no more. */
    static TaggedPascal stops(int steps, int answer, String source) {
        TaggedPascal machine = compiled(source);
        due("run(" + steps + ") of " + source, machine.run(steps), answer);
        return machine;
    }

    /** The statements run with i, j integers; a, b booleans; c a char; s, t sets; r 1..9; v an array. */
    static void does(String statements, String written) {
        writes("type k=1..9;var i,j:integer;a,b:boolean;c:char;s,t:set;r:k;v:array[k]of integer;begin "
            + statements + " end.", written);
    }

    static void told(TaggedPascal machine, String what, int steps, int blocks, int cells, int read) {
        due("steps of " + what, machine.told(0), steps);
        due("blocks of " + what, machine.told(1), blocks);
        due("cells of " + what, machine.told(2), cells);
        due("bytes read of " + what, machine.told(3), read);
    }

    static boolean feedThrows(TaggedPascal machine, int n) {
        try {
            machine.feed(n, 0);
        } catch (IllegalArgumentException due) {
            return true;
        }
        return false;
    }

    static boolean runThrows(TaggedPascal machine, int steps) {
        try {
            machine.run(steps);
        } catch (IllegalArgumentException due) {
            return true;
        }
        return false;
    }

    static boolean toldThrows(TaggedPascal machine, int what) {
        try {
            machine.told(what);
        } catch (IllegalArgumentException due) {
            return true;
        }
        return false;
    }

    static String repeated(String piece, int times) {
        return piece.repeat(times);
    }

    /** So many names, a0 the first, with commas between. */
    static String names(int count) {
        StringBuilder text = new StringBuilder();
        for (int i = 0; i < count; i++) {
            text.append(i == 0 ? "" : ",").append("a").append(i);
        }
        return text.toString();
    }

    /** So many procedures within one another, each with the inner one alone, the innermost with what is given. */
    static String nested(int count, String innermost) {
        return count == 0 ? innermost : "procedure p;" + nested(count - 1, innermost) + "begin end;";
    }
}
