/** The paragraph before promise 1, and promises 1 to 12: each sentence that names an edge, at it and one beyond it. */
public final class PromiseEdgesTest {
    /** Writes all of the input, then ends with an error at its last statement. */
    private static final String ECHO = "var c:char;begin while not eof do begin read(c);write(c)end;read(c)end.";
    private static final int LAST = ECHO.lastIndexOf("read");

    public static void main(String[] args) {
        throwsChangeNothing();
        feedOfNoneChangesNothing();
        compileOfNoneChangesNothing();
        nothingToldBeforeAnyRun();
        otherCallsLeaveTheLastRun();
        newObject();
        objectsOfTheirOwn();
        feedTakesTheLowest();
        feedUpTo1500();
        feedOfOneToEight();
        wipe();
        compileAnswersHowMany();
        compileOfTheTapeThatStays();
        programStays();
        faultsOneToFive();
        placesOfFaults();
        inputIsTheTape();
        inputOfNothing();
        runAnswers();
        runFromTheBeginning();
        runOfZeroTo20000();
        runOutOfSteps();
        whereTheInnermost();
        whereOfThatWhichCalled();
        whereNone();
        whereOnTheTapeOfCompile();
        writtenByTheLastRun();
        eightBytes();
        toldOfTheLastRun();
        toldAnotherWhat();
        Check.finish();
    }

    private static TaggedPascal echoed() {
        TaggedPascal machine = Check.compiled(ECHO, "hello");
        Check.due("echo", machine.run(20000), 5);
        return machine;
    }

    /** All that is told of the run in echoed(). */
    private static void stillEchoed(String what, TaggedPascal machine) {
        Check.due("where behind " + what, machine.where(), LAST);
        Check.due("written behind " + what, machine.written(), 5);
        Check.due("text behind " + what, machine.text(0), 0x6f6c6c6568L);
        Check.told(machine, what, 17, 1, 5, 5);
    }

    /** "Methods throw what their comments name; a call that throws ... changes nothing". */
    private static void throwsChangeNothing() {
        TaggedPascal machine = echoed();
        Check.feed(machine, "begin x end.");
        Check.due("compile", machine.compile(), -1);
        Check.due("feed(0) throws", Check.feedThrows(machine, 0) ? 1 : 0, 1);
        Check.due("feed(9) throws", Check.feedThrows(machine, 9) ? 1 : 0, 1);
        Check.due("run(-1) throws", Check.runThrows(machine, -1) ? 1 : 0, 1);
        Check.due("run(20001) throws", Check.runThrows(machine, 20001) ? 1 : 0, 1);
        Check.due("told(-1) throws", Check.toldThrows(machine, -1) ? 1 : 0, 1);
        Check.due("told(4) throws", Check.toldThrows(machine, 4) ? 1 : 0, 1);
        stillEchoed("throws", machine);
        Check.due("fault behind throws", machine.fault(), 2);
        Check.due("place behind throws", machine.place(), 6);
        Check.due("run behind throws", machine.run(20000), 5);
        stillEchoed("throws and a run", machine);
        Check.due("tape behind throws", machine.wipe(), 12);
    }

    /** "or answers NONE, changes nothing". */
    private static void feedOfNoneChangesNothing() {
        TaggedPascal machine = echoed();
        Check.feed(machine, "begin end." + Check.repeated(" ", 1485));
        Check.due("feed of 6 to 1495", machine.feed(6, 0x3f3f3f3f3f3fL), -1);
        Check.due("feed of 8 to 1495", machine.feed(8, 0x3f3f3f3f3f3fL), -1);
        stillEchoed("feed of NONE", machine);
        Check.due("compile of what there was", machine.compile(), 0);
        Check.due("feed of 5 to 1495", machine.feed(5, 0x3f20202020L), 1500);
        Check.due("feed of 1 to 1500", machine.feed(1, 0x20), -1);
        Check.due("compile of 1500", machine.compile(), -1);
        Check.due("place of byte 1499", machine.place(), 1499);
        Check.due("wipe of 1500", machine.wipe(), 1500);
    }

    /** "(but for compile(), of which fault() and place() tell)". */
    private static void compileOfNoneChangesNothing() {
        TaggedPascal machine = echoed();
        Check.feed(machine, "begin write(1 end");
        Check.due("compile", machine.compile(), -1);
        stillEchoed("compile of NONE", machine);
        Check.due("fault tells", machine.fault(), 1);
        Check.due("place tells", machine.place(), 14);
        Check.due("run of the same program, on the same input", machine.run(20000), 5);
        stillEchoed("compile of NONE and a run", machine);
        Check.due("fault behind a run", machine.fault(), 1);
        Check.due("place behind a run", machine.place(), 14);
        Check.due("wipe of the same tape", machine.wipe(), 17);
    }

    private static void nothingTold(String what, TaggedPascal machine) {
        Check.told(machine, what, 0, 0, 0, 0);
        Check.due("where: " + what, machine.where(), -1);
        Check.due("written: " + what, machine.written(), 0);
        Check.due("text: " + what, machine.text(0), 0);
        Check.due("text below 0: " + what, machine.text(-1), 0);
    }

    /** "What is told of the last run is 0 (where(): NONE) before any". */
    private static void nothingToldBeforeAnyRun() {
        TaggedPascal machine = new TaggedPascal();
        nothingTold("a new object", machine);
        Check.feed(machine, "var a:integer;begin write(1 div 0)end.");
        nothingTold("feed", machine);
        machine.compile();
        nothingTold("compile", machine);
        machine.input();
        nothingTold("input", machine);
        machine.compile();
        nothingTold("compile of a fault", machine);
        Check.runThrows(machine, -1);
        nothingTold("a run that throws", machine);
        machine.wipe();
        nothingTold("wipe", machine);
    }

    /** "other calls do not change it". */
    private static void otherCallsLeaveTheLastRun() {
        TaggedPascal machine = echoed();
        Check.feed(machine, "begin write(1)end.");
        stillEchoed("feed", machine);
        machine.compile();
        stillEchoed("compile", machine);
        machine.wipe();
        stillEchoed("wipe", machine);
        machine.compile();
        stillEchoed("compile of a fault", machine);
        machine.feed(1, 'x');
        machine.input();
        stillEchoed("input", machine);
        machine.fault();
        machine.place();
        machine.text(3);
        stillEchoed("what only tells", machine);
        Check.due("the next run", machine.run(1), 0);
        Check.told(machine, "the next run", 1, 1, 4, 0);
        Check.due("where of the next run", machine.where(), -1);
        Check.due("written by the next run", machine.written(), 1);
        Check.due("text of the next run", machine.text(0), '1');
    }

    /** Promise 1: "An empty tape and input; the program does nothing." */
    private static void newObject() {
        TaggedPascal machine = new TaggedPascal();
        Check.due("NONE", TaggedPascal.NONE, -1);
        Check.due("fault", machine.fault(), 0);
        Check.due("place", machine.place(), -1);
        Check.due("run(0) of nothing", machine.run(0), 0);
        Check.told(machine, "nothing", 0, 1, 4, 0);
        Check.due("run(20000) of nothing", machine.run(20000), 0);
        Check.due("where of nothing", machine.where(), -1);
        Check.due("written by nothing", machine.written(), 0);
        Check.due("wipe of an empty tape", machine.wipe(), 0);
        Check.feed(machine, "begin write(eof,eoln)end.");
        Check.due("compile", machine.compile(), 0);
        Check.due("run on an empty input", machine.run(1), 0);
        Check.due("an empty input", Check.output(machine), "truetrue");
        machine = new TaggedPascal();
        Check.due("input of an empty tape", machine.input(), 0);
        Check.due("compile of an empty tape", machine.compile(), -1);
        Check.due("fault of an empty tape", machine.fault(), 1);
        Check.due("place on an empty tape", machine.place(), 0);
        Check.due("nothing still runs", machine.run(0), 0);
    }

    private static void objectsOfTheirOwn() {
        TaggedPascal one = Check.compiled("begin write(1)end.", "ab");
        TaggedPascal two = new TaggedPascal();
        nothingTold("another object", two);
        Check.due("one runs", one.run(1), 0);
        nothingTold("another object's run", two);
        Check.due("two does nothing", two.run(0), 0);
        Check.due("one has written", one.written(), 1);
        Check.due("two is empty", two.wipe(), 0);
    }

    /** Promise 2: "The n lowest bytes of a long, the lowest first, come behind the tape." */
    private static void feedTakesTheLowest() {
        TaggedPascal machine = new TaggedPascal();
        int length = 0;
        for (int n = 1; n <= 8; n++) {
            length += n;
            Check.due("feed of " + n, machine.feed(n, 0x6867666564636261L), length);
        }
        Check.due("feed of 8 more", machine.feed(8, 0xff80007f01020aefL), 44);
        Check.due("input of all", machine.input(), 44);
        Check.feed(machine, "var c:char;begin while not eof do begin read(c);write(c)end end.");
        Check.due("compile", machine.compile(), 0);
        Check.due("run", machine.run(500), 0);
        Check.due("the lowest first", Check.output(machine), "aababcabcdabcdeabcdefabcdefgabcdefgh\357\n\2\1\177\0\200\377");
    }

    /** "Answers how many it has; NONE when there would be more than 1500." */
    private static void feedUpTo1500() {
        for (int n = 1; n <= 8; n++) {
            TaggedPascal machine = new TaggedPascal();
            Check.feed(machine, Check.repeated("x", 1500 - n));
            if (n < 8) {
                Check.due("feed of " + (n + 1) + " to " + (1500 - n), machine.feed(n + 1, 0), -1);
            }
            Check.due("feed of " + n + " up to 1500", machine.feed(n, 0), 1500);
            for (int k = 1; k <= 8; k++) {
                Check.due("feed of " + k + " to 1500", machine.feed(k, 0), -1);
            }
            Check.due("a full tape", machine.wipe(), 1500);
            Check.due("feed to an empty tape", machine.feed(n, 0), n);
        }
    }

    /** "IllegalArgumentException: n is not 1 to 8." */
    private static void feedOfOneToEight() {
        TaggedPascal machine = new TaggedPascal();
        int[] wrong = {0, 9, -1, -8, 10, 16, 255, 256 + 8, Integer.MIN_VALUE, Integer.MAX_VALUE, Integer.MIN_VALUE + 8};
        for (int n : wrong) {
            Check.due("feed throws for " + n, Check.feedThrows(machine, n) ? 1 : 0, 1);
        }
        Check.due("nothing was fed", machine.wipe(), 0);
        for (int n = 1; n <= 8; n++) {
            Check.due("feed does not throw for " + n, Check.feedThrows(machine, n) ? 1 : 0, 0);
        }
        Check.due("36 were fed", machine.wipe(), 36);
        Check.feed(machine, Check.repeated(" ", 1500));
        Check.due("feed throws for 0 on a full tape", Check.feedThrows(machine, 0) ? 1 : 0, 1);
        Check.due("feed throws for 9 on a full tape", Check.feedThrows(machine, 9) ? 1 : 0, 1);
    }

    /** Promise 3: "The tape is empty then. Answers how many bytes it had." */
    private static void wipe() {
        TaggedPascal machine = new TaggedPascal();
        Check.due("wipe of nothing", machine.wipe(), 0);
        Check.due("feed of one", machine.feed(1, 'x'), 1);
        Check.due("wipe of one", machine.wipe(), 1);
        Check.due("wipe again", machine.wipe(), 0);
        machine = echoed();
        Check.feed(machine, "begin write(1)end.");
        Check.due("wipe of 18", machine.wipe(), 18);
        Check.due("compile of a wiped tape", machine.compile(), -1);
        Check.due("its place", machine.place(), 0);
        machine.wipe();
        Check.due("wipe leaves the fault", machine.fault(), 1);
        Check.due("wipe leaves the place", machine.place(), 0);
        Check.due("wipe leaves the program and the input", machine.run(20000), 5);
        stillEchoed("wipe and a run", machine);
        Check.feed(machine, "begin end.");
        Check.due("what was wiped is gone", machine.compile(), 0);
    }

    /** Promise 4: "Answers how many procedures and functions it has". */
    private static void compileAnswersHowMany() {
        Check.accepts(0, "begin end.");
        Check.accepts(1, "procedure p;begin end;begin end.");
        Check.accepts(1, "function f:char;begin end;begin end.");
        Check.accepts(2, "procedure p;procedure q;begin end;begin end;begin end.");
        Check.accepts(3, "procedure p;begin end;function f:char;begin end;procedure q;begin end;begin end.");
        Check.accepts(5, Check.nested(5, "") + "begin end.");
        TaggedPascal machine = new TaggedPascal();
        Check.feed(machine, "procedure p;begin end;begin end.");
        Check.due("compile", machine.compile(), 1);
        Check.due("compile: not added up", machine.compile(), 1);
        machine.wipe();
        Check.feed(machine, "procedure p;begin end;procedure q;begin end;begin end");
        Check.due("compile of a fault", machine.compile(), -1);
        machine.wipe();
        Check.feed(machine, "begin end.");
        Check.due("compile of none", machine.compile(), 0);
    }

    /** "The program becomes that of the tape (which stays)." */
    private static void compileOfTheTapeThatStays() {
        TaggedPascal machine = new TaggedPascal();
        Check.feed(machine, "begin write(1)end");
        Check.due("compile without a point", machine.compile(), -1);
        Check.due("the point comes behind", machine.feed(1, '.'), 18);
        Check.due("compile with it", machine.compile(), 0);
        Check.due("a blank comes behind", machine.feed(1, ' '), 19);
        Check.due("compile with a blank", machine.compile(), 0);
        Check.due("a word comes behind", machine.feed(1, 'x'), 20);
        Check.due("compile with a word", machine.compile(), -1);
        Check.due("its place", machine.place(), 19);
        Check.due("run of the program before", machine.run(1), 0);
        Check.due("what it writes", machine.text(0), '1');
        Check.due("input of the same tape", machine.input(), 20);
        Check.due("run without the tape", machine.run(1), 0);
    }

    /** "NONE when there is a fault: the program stays." */
    private static void programStays() {
        TaggedPascal machine = Check.compiled("procedure p;begin write(7)end;begin p end.");
        String[] faulty = {"", "begin write(8)end", "begin write(8);x end.", "procedure p;begin write(8)end;begin p;p end.;",
            "var a,a:char;begin write(8)end.", "begin write(8);if 1 then end.", "begin write(8)end.?", "begin write(8,2147483648)end."};
        int[] faults = {1, 1, 2, 1, 3, 4, 1, 5};
        for (int k = 0; k < faulty.length; k++) {
            machine.wipe();
            Check.feed(machine, faulty[k]);
            Check.due("compile of " + faulty[k], machine.compile(), -1);
            Check.due("fault of " + faulty[k], machine.fault(), faults[k]);
            Check.due("run behind " + faulty[k], machine.run(9), 0);
            Check.due("text behind " + faulty[k], machine.text(0), '7');
            Check.told(machine, faulty[k], 2, 2, 8, 0);
        }
    }

    /** Promise 5: "The fault that the last compile() met, 1 to 5; 0 when it met none, or there was none." */
    private static void faultsOneToFive() {
        TaggedPascal machine = new TaggedPascal();
        Check.due("fault before any", machine.fault(), 0);
        String[] sources = {"begin", "begin x end.", "var a,a:char;begin end.", "begin if 1 then end.", "begin 2147483648 end."};
        for (int k = 0; k < sources.length; k++) {
            Check.feed(machine, sources[k]);
            Check.due("fault before compile", machine.fault(), 0);
            Check.due("compile of " + sources[k], machine.compile(), -1);
            Check.due("fault of " + sources[k], machine.fault(), k + 1);
            Check.due("fault again of " + sources[k], machine.fault(), k + 1);
            machine.wipe();
            Check.feed(machine, "begin end.");
            Check.due("fault until the next compile", machine.fault(), k + 1);
            Check.due("compile of a right one", machine.compile(), 0);
            Check.due("fault of a right one", machine.fault(), 0);
            Check.due("place of a right one", machine.place(), -1);
            machine.wipe();
        }
    }

    /** Promise 6: "The place of that fault on the tape; NONE when there is none." */
    private static void placesOfFaults() {
        TaggedPascal machine = new TaggedPascal();
        Check.due("place before any", machine.place(), -1);
        Check.feed(machine, "begin  x end.");
        Check.due("place before compile", machine.place(), -1);
        machine.compile();
        Check.due("place of x", machine.place(), 7);
        machine.input();
        Check.due("place behind input", machine.place(), 7);
        machine.run(0);
        Check.due("place behind run", machine.place(), 7);
        machine.compile();
        Check.due("place on an empty tape", machine.place(), 0);
        Check.feed(machine, "begin ");
        machine.compile();
        Check.due("place behind all words", machine.place(), 6);
        Check.feedThrows(machine, 0);
        Check.due("place behind a throw", machine.place(), 6);
        Check.due("feed", machine.feed(4, 0x2e646e65L), 10);
        machine.compile();
        Check.due("place of none", machine.place(), -1);
    }

    /** Promise 7: "The tape becomes the input, and is empty then. Answers how many bytes that are." */
    private static void inputIsTheTape() {
        TaggedPascal machine = Check.compiled(ECHO, "abc");
        Check.due("the tape is empty", machine.wipe(), 0);
        Check.due("run on abc", machine.run(999), 5);
        Check.due("abc", Check.output(machine), "abc");
        Check.feed(machine, "de");
        Check.due("the tape is not the input", machine.run(999), 5);
        Check.due("abc again", Check.output(machine), "abc");
        Check.due("input of two", machine.input(), 2);
        Check.due("input leaves the text", Check.output(machine), "abc");
        Check.due("run on de", machine.run(999), 5);
        Check.due("de", Check.output(machine), "de");
        Check.feed(machine, "fghij");
        Check.due("wipe", machine.wipe(), 5);
        Check.due("run behind wipe", machine.run(999), 5);
        Check.due("de again", Check.output(machine), "de");
        Check.feed(machine, "k");
        Check.due("compile of k", machine.compile(), -1);
        Check.due("input behind a fault", machine.input(), 1);
        Check.due("fault behind input", machine.fault(), 1);
        Check.due("run on k", machine.run(999), 5);
        Check.due("k", Check.output(machine), "k");
        Check.due("feed to an empty tape", machine.feed(1, 'z'), 1);
        machine = Check.compiled("var c:char;begin while not eof do read(c);write(c)end.", Check.repeated("y", 1499) + "z");
        Check.due("run on 1500", machine.run(20000), 0);
        Check.due("the last of 1500", machine.text(0), 'z');
        Check.due("1500 read", machine.told(3), 1500);
    }

    private static void inputOfNothing() {
        TaggedPascal machine = Check.compiled(ECHO, "abc");
        Check.due("input of an empty tape", machine.input(), 0);
        Check.due("run on nothing", machine.run(999), 5);
        Check.due("nothing is written", machine.written(), 0);
        Check.due("nothing is read", machine.told(3), 0);
        Check.due("where on nothing", machine.where(), LAST);
    }

    /** Promise 8: "Answers 0 if it ended, 1 to 6 for an error, 7 if it would have made more steps." */
    private static void runAnswers() {
        Check.stops(1, 0, "begin write(1)end.");
        Check.stops(1, 1, "var i:integer;begin i:=i end.");
        Check.stops(1, 2, "begin write(1 div 0)end.");
        Check.stops(1, 3, "begin write(chr(256))end.");
        Check.stops(1, 4, "begin case 1 of 2:end end.");
        Check.stops(1, 5, "var i:integer;begin read(i)end.");
        Check.stops(400, 6, "procedure p;begin p end;begin p end.");
        Check.stops(1, 7, "begin writeln;writeln end.");
        Check.stops(0, 6, "type v=array[1..500]of char;var a,b,c,d,e,f:v;begin writeln end.");
        Check.stops(0, 7, "begin write(1 div 0)end.");
        Check.stops(0, 0, "begin begin end end.");
    }

    /** "Runs the program from its beginning, with the input from its beginning on." */
    private static void runFromTheBeginning() {
        TaggedPascal machine = Check.compiled("var i:integer;c:char;begin read(c);write(c);if c='x' then i:=i;i:=1 end.", "xyz");
        for (int k = 0; k < 3; k++) {
            Check.due("run " + k, machine.run(9), 1);
            Check.due("text of run " + k, Check.output(machine), "x");
            Check.told(machine, "run " + k, 4, 1, 6, 1);
        }
        machine = Check.compiled(ECHO, "abcdef");
        Check.due("a run that stops", machine.run(4), 7);
        Check.due("its text", Check.output(machine), "a");
        Check.due("a run to the end", machine.run(999), 5);
        Check.due("the whole text", Check.output(machine), "abcdef");
        Check.due("a shorter run", machine.run(4), 7);
        Check.due("its text again", Check.output(machine), "a");
        Check.due("bytes behind it", machine.text(1), 0);
        TaggedPascal again = Check.compiled("var i:integer;procedure p(var a:integer);begin a:=1 end;begin if eof then i:=i;p(i)end.", "");
        Check.due("undefined", again.run(9), 1);
        Check.due("undefined again", again.run(9), 1);
    }

    /** "IllegalArgumentException: steps is not 0 to 20000." */
    private static void runOfZeroTo20000() {
        TaggedPascal machine = Check.compiled("begin while true do end.");
        int[] wrong = {-1, 20001, -20000, 40000, Integer.MIN_VALUE, Integer.MAX_VALUE};
        for (int steps : wrong) {
            Check.due("run throws for " + steps, Check.runThrows(machine, steps) ? 1 : 0, 1);
        }
        nothingTold("only throws", machine);
        int[] right = {0, 1, 2, 19999, 20000};
        for (int steps : right) {
            Check.due("run(" + steps + ")", machine.run(steps), 7);
            Check.due("steps of run(" + steps + ")", machine.told(0), steps);
        }
    }

    private static void runOutOfSteps() {
        TaggedPascal machine = Check.compiled("begin write(1);write(2);write(3)end.");
        String[] texts = {"", "1", "12"};
        for (int k = 0; k < 3; k++) {
            Check.due("run(" + k + ")", machine.run(k), 7);
            Check.due("text of run(" + k + ")", Check.output(machine), texts[k]);
            Check.due("where of run(" + k + ")", machine.where(), -1);
            Check.told(machine, "run(" + k + ")", k, 1, 4, 0);
        }
        Check.due("run(3)", machine.run(3), 0);
        Check.due("run(4)", machine.run(4), 0);
        Check.due("steps of run(4)", machine.told(0), 3);
        Check.stops(2, 2, "begin write(1);write(1 div 0)end.");
        Check.stops(1, 7, "begin write(1);write(1 div 0)end.");
    }

    /** Promise 9: "the statement began in which the last run ended with an error: the innermost one, of the block that ran". */
    private static void whereTheInnermost() {
        String head = "var i:integer;procedure p(n:integer);begin end;begin ";
        String[] sources = {"^i:=1 div 0", "begin begin ^i:=1 div 0 end end", "if true then ^i:=1 div 0",
            "if false then else ^i:=1 div 0", "^if 1 div 0=1 then i:=1", "^while 1 div 0=1 do i:=1", "while true do ^i:=1 div 0",
            "while true do begin i:=1;^i:=1 div 0;i:=2 end", "i:=1;^while 1 div i=1 do i:=0", "repeat ^i:=1 div 0 until true",
            "^repeat i:=1 until 1 div 0=1", "^for i:=1 div 0 to 2 do i:=1", "^for i:=1 to 1 div 0 do i:=1",
            "for i:=1 to 2 do ^i:=1 div 0", "^case 1 div 0 of 1:i:=1 end", "case 1 of 1:^i:=1 div 0 end",
            "case 1 of 2:;1:begin if true then ^write(1 div 0)end end", "^p(1 div 0)",
            "begin end;;^write(1 div 0)", "if true then if true then ^write(1 div 0)else else"};
        for (String source : sources) {
            Check.runs(2, head + source + " end.");
        }
        Check.runs(2, "var i:integer;procedure p;begin i:=2;^i:=1 div 0 end;begin i:=1;p end.");
        Check.runs(2, "var i:integer;function f:integer;begin f:=1;^f:=1 div 0 end;begin i:=1;i:=f end.");
        Check.runs(2, "procedure p(n:integer);begin if n=0 then ^write(1 div n)else p(n-1)end;begin p(3)end.");
        Check.runs(2, "function f(n:integer):integer;begin f:=n end;begin ^write(f(1)div f(0))end.");
    }

    /** "(of that which called, if the value of a function was undefined, or there was no room for a block)". */
    private static void whereOfThatWhichCalled() {
        Check.runs(1, "function f:integer;begin write('f')end;begin write('a');^write(f)end.", "", "af");
        Check.runs(1, "function f:integer;begin end;procedure p;begin if true then begin ^if f=1 then write(1)end end;begin p end.");
        Check.runs(1, "function f:integer;begin end;begin ^while f=1 do write(1)end.");
        Check.runs(1, "function f:integer;begin end;begin ^repeat write(1)until f=1 end.", "", "1");
        Check.runs(1, "function f:integer;begin end;procedure p(n:integer);begin end;begin ^p(f)end.");
        Check.runs(1, "function f:integer;begin end;function g:integer;begin ^g:=f end;begin write(g)end.");
        Check.runs(1, "var i:integer;function f:integer;begin end;begin ^for i:=f to 2 do end.");
        Check.runs(1, "var i:integer;function f:integer;begin end;begin ^for i:=1 to f do end.");
        Check.runs(1, "var i:integer;function f:integer;begin end;begin ^case f of 1:end end.");
        Check.runs(1, "var v:array[1..2]of integer;function f:integer;begin end;begin ^v[f]:=1 end.");
        Check.runs(6, "procedure p;begin if true then begin ^p end end;begin p end.");
        Check.runs(6, "function f(n:integer):integer;begin ^f:=f(n)end;begin write(f(1))end.");
        Check.runs(6, "function f(n:integer):boolean;begin ^while f(n)do f:=true end;begin if f(1)then end.");
        Check.runs(6, "type v=array[1..500]of char;var a,b,c,d,e:v;procedure p;var g:v;begin write(1)end;"
            + "begin write(2);if true then ^p end.", "", "2");
        Check.runs(6, "type v=array[1..500]of char;var a,b,c,d,e:v;function f:char;var g:v;begin f:='a' end;"
            + "procedure p;begin ^write(f)end;begin p end.");
    }

    /** "NONE when it did not, or there was no room for the program's own block". */
    private static void whereNone() {
        Check.due("where of an end", Check.stops(9, 0, "begin write(1)end.").where(), -1);
        Check.due("where out of steps", Check.stops(1, 7, "begin write(1);write(2)end.").where(), -1);
        TaggedPascal machine = Check.stops(9, 6, "type v=array[1..500]of char;var a,b,c,d,e,f:v;begin write(1)end.");
        Check.due("where without room", machine.where(), -1);
        Check.due("written without room", machine.written(), 0);
        Check.due("steps without room", machine.told(0), 0);
        machine = Check.compiled("var c:char;begin read(c)end.");
        Check.due("an error", machine.run(9), 5);
        Check.due("its where", machine.where(), 17);
        machine.wipe();
        machine.feed(1, 'x');
        machine.input();
        Check.due("no error", machine.run(9), 0);
        Check.due("no where", machine.where(), -1);
        Check.due("no steps", machine.run(0), 7);
        Check.due("no where either", machine.where(), -1);
    }

    /** "Where on the tape, when it was compiled". */
    private static void whereOnTheTapeOfCompile() {
        TaggedPascal machine = Check.compiled("  {x} begin\n  write(1 div 0)end.");
        Check.due("run", machine.run(1), 2);
        Check.due("where", machine.where(), 14);
        machine.wipe();
        Check.feed(machine, "                  begin x end.");
        machine.compile();
        Check.due("run behind a fault", machine.run(1), 2);
        Check.due("where behind a fault", machine.where(), 14);
        machine.wipe();
        Check.feed(machine, "begin write(1 div 0)end.");
        machine.compile();
        Check.due("where before the next run", machine.where(), 14);
        Check.due("run of another", machine.run(1), 2);
        Check.due("where of another", machine.where(), 6);
        machine = Check.stops(1, 2, Check.repeated(" ", 1500 - 24) + "begin write(1 div 0)end.");
        Check.due("where at the tape's end", machine.where(), 1482);
    }

    /** Promise 10: "How many bytes were written by the last run." */
    private static void writtenByTheLastRun() {
        Check.due("none", Check.stops(9, 0, "begin end.").written(), 0);
        Check.due("one", Check.stops(9, 0, "begin write(1)end.").written(), 1);
        Check.due("a line", Check.stops(9, 0, "begin writeln(12,'abc',true)end.").written(), 10);
        Check.due("before an error", Check.stops(9, 2, "begin write('ab',1 div 0)end.").written(), 2);
        Check.due("out of steps", Check.stops(1, 7, "begin write('abc');write('d')end.").written(), 3);
        TaggedPascal machine = Check.compiled("var c:char;begin while not eof do begin read(c);write(c)end end.", "abcdefghij");
        machine.run(999);
        Check.due("ten", machine.written(), 10);
        machine.run(4);
        Check.due("one of ten", machine.written(), 1);
        machine.run(0);
        Check.due("none of ten", machine.written(), 0);
        Check.due("1500", Check.stops(9999, 6, "begin while true do write('abcdefg')end.").written(), 1500);
    }

    /** Promise 11: "Eight of these bytes from byte i on, the first one the lowest; 0 where there are none ...". */
    private static void eightBytes() {
        TaggedPascal machine = Check.stops(9, 0, "begin write('abcdefghijk',chr(255))end.");
        byte[] due = "abcdefghijk\377".getBytes(java.nio.charset.StandardCharsets.ISO_8859_1);
        for (int i = -12; i <= 20; i++) {
            long eight = 0;
            for (int k = 0; k < 8; k++) {
                int at = i + k;
                eight |= at >= 0 && at < due.length ? (due[at] & 255L) << (8 * k) : 0;
            }
            Check.due("text(" + i + ")", machine.text(i), eight);
        }
        int[] far = {Integer.MIN_VALUE, Integer.MIN_VALUE + 1, Integer.MIN_VALUE + 7, Integer.MIN_VALUE + 8, -1500, -2147480000,
            1499, 1500, 1501, 65536, Integer.MAX_VALUE - 8, Integer.MAX_VALUE - 7, Integer.MAX_VALUE - 1, Integer.MAX_VALUE};
        for (int i : far) {
            Check.due("text(" + i + ")", machine.text(i), 0);
        }
        machine = Check.stops(9999, 6, "begin write('z');while true do write('abcdefg')end.");
        Check.due("text(1492)", machine.text(1492), 0x6167666564636261L);
        Check.due("text(1493)", machine.text(1493), 0x61676665646362L);
        Check.due("text(1499)", machine.text(1499), 0x61);
        Check.due("text(1500)", machine.text(1500), 0);
        machine.run(1);
        Check.due("text of less", machine.text(0), 'z');
        Check.due("text behind less", machine.text(1), 0);
        Check.due("text around less", machine.text(-7), (long) 'z' << 56);
    }

    /** Promise 12: "Of the last run: steps, the most blocks that ran within one another, the most cells, bytes ... read". */
    private static void toldOfTheLastRun() {
        String source = "var c:char;procedure p(n:integer);begin if n>0 then p(n-1)end;begin p(3);read(c);p(1);read(c)end.";
        TaggedPascal machine = Check.compiled(source, "xyz");
        Check.due("run", machine.run(999), 0);
        Check.told(machine, "the most, not the last", 4 + 7 + 3, 5, 25, 2);
        Check.due("run(3)", machine.run(3), 7);
        Check.told(machine, "three steps", 3, 3, 15, 0);
        Check.due("run(0)", machine.run(0), 7);
        Check.told(machine, "no steps", 0, 1, 5, 0);
        machine = Check.compiled("procedure p;begin end;procedure q;var v:array[1..9]of char;begin p end;begin p;q;p end.");
        Check.due("run of three", machine.run(99), 0);
        Check.told(machine, "most at different times", 4, 3, 21, 0);
        machine = Check.compiled("procedure p;var v:array[1..9]of char;begin end;procedure q;begin end;procedure r;begin q end;"
            + "begin p;r end.");
        Check.due("run of four", machine.run(99), 0);
        Check.told(machine, "most cells with less blocks", 3, 3, 17, 0);
    }

    /** "IllegalArgumentException: another what." */
    private static void toldAnotherWhat() {
        TaggedPascal machine = new TaggedPascal();
        int[] wrong = {-1, 4, 5, -4, 256, Integer.MIN_VALUE, Integer.MAX_VALUE};
        for (int what : wrong) {
            Check.due("told throws for " + what, Check.toldThrows(machine, what) ? 1 : 0, 1);
        }
        for (int what = 0; what < 4; what++) {
            Check.due("told does not throw for " + what, Check.toldThrows(machine, what) ? 1 : 0, 0);
        }
    }
}
