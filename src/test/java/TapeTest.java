/** Promises 1, 2, 3 and 7: a new object, the tape and the input. */
public final class TapeTest {
    public static void main(String[] args) {
        newObject();
        feedingInOrder();
        feedingTooMuch();
        feedingWrongly();
        wiping();
        becomingInput();
        Check.finish();
    }

    private static void newObject() {
        TaggedPascal machine = new TaggedPascal();
        Check.due("NONE", TaggedPascal.NONE, -1);
        Check.due("new: fault", machine.fault(), 0);
        Check.due("new: place", machine.place(), -1);
        Check.due("new: where", machine.where(), -1);
        Check.due("new: written", machine.written(), 0);
        Check.due("new: text", machine.text(0), 0);
        Check.told(machine, "a new object", 0, 0, 0, 0);
        Check.due("new: wipe", machine.wipe(), 0);
        Check.due("new: input", machine.input(), 0);
        Check.due("new: run", machine.run(0), 0);
        Check.due("new: where behind run", machine.where(), -1);
        Check.due("new: written behind run", machine.written(), 0);
        Check.told(machine, "the program that does nothing", 0, 1, 4, 0);
        TaggedPascal other = new TaggedPascal();
        Check.due("new: an empty tape is no program", other.compile(), -1);
        Check.due("new: its fault", other.fault(), 1);
        Check.due("new: its place", other.place(), 0);
        Check.due("new: the program stays", other.run(20000), 0);
    }

    private static void feedingInOrder() {
        TaggedPascal machine = new TaggedPascal();
        Check.due("feed 1", machine.feed(1, 0x6261L), 1);
        Check.due("feed 8", machine.feed(8, 0x6867666564636261L), 9);
        Check.due("feed 3", machine.feed(3, -1L << 24 | 0x7a7978), 12);
        machine.input();
        Check.feed(machine, "var c:char;begin while not eof do begin read(c);write(c)end end.");
        Check.due("feed: compile", machine.compile(), 0);
        Check.due("feed: run", machine.run(100), 0);
        Check.due("feed: the lowest first", Check.output(machine), "aabcdefghxyz");
        TaggedPascal high = Check.compiled("var c:char;begin read(c);write(ord(c));read(c);write(ord(c))end.", "\377\0");
        Check.due("feed: bytes above 127 and 0", high.run(100), 0);
        Check.due("feed: their numbers", Check.output(high), "2550");
    }

    private static void feedingTooMuch() {
        TaggedPascal machine = new TaggedPascal();
        Check.feed(machine, Check.repeated("x", 1496));
        Check.due("feed: 1504", machine.feed(8, 0), -1);
        Check.due("feed: 1501", machine.feed(5, 0), -1);
        Check.due("feed: 1500", machine.feed(4, 0), 1500);
        Check.due("feed: 1501 of 1500", machine.feed(1, 0), -1);
        Check.due("feed: NONE leaves the tape", machine.wipe(), 1500);
        Check.due("feed: behind wipe", machine.feed(2, 0), 2);
    }

    private static void feedingWrongly() {
        TaggedPascal machine = new TaggedPascal();
        Check.due("feed 5", machine.feed(5, 1), 5);
        int[] wrong = {0, 9, -1, Integer.MIN_VALUE, Integer.MAX_VALUE};
        for (int n : wrong) {
            Check.due("feed throws for " + n, Check.feedThrows(machine, n) ? 1 : 0, 1);
        }
        Check.due("feed: a throw leaves the tape", machine.wipe(), 5);
        Check.feed(machine, Check.repeated(" ", 1500));
        Check.due("feed throws on a full tape", Check.feedThrows(machine, 9) ? 1 : 0, 1);
        Check.due("feed: still full", machine.wipe(), 1500);
    }

    private static void wiping() {
        TaggedPascal machine = new TaggedPascal();
        Check.feed(machine, "begin write(1)end.");
        Check.due("wipe: compile", machine.compile(), 0);
        Check.due("wipe: run", machine.run(9), 0);
        Check.due("wipe", machine.wipe(), 18);
        Check.due("wipe again", machine.wipe(), 0);
        Check.due("wipe: the program stays", machine.run(9), 0);
        Check.due("wipe: what it writes", machine.text(0), '1');
        Check.due("wipe: compile of nothing", machine.compile(), -1);
        Check.due("wipe: its fault", machine.fault(), 1);
        machine.wipe();
        Check.due("wipe leaves the fault", machine.fault(), 1);
        Check.due("wipe leaves the place", machine.place(), 0);
        Check.due("wipe leaves what was written", machine.written(), 1);
    }

    private static void becomingInput() {
        String echo = "var c:char;begin while not eof do begin read(c);write(c)end end.";
        TaggedPascal machine = Check.compiled(echo, "first");
        Check.due("input: the tape is empty", machine.wipe(), 0);
        Check.due("input: run", machine.run(100), 0);
        Check.due("input: first", Check.output(machine), "first");
        Check.due("input: run again", machine.run(100), 0);
        Check.due("input: from its beginning", Check.output(machine), "first");
        Check.feed(machine, "2nd");
        Check.due("input: run with a tape", machine.run(100), 0);
        Check.due("input: still the first", Check.output(machine), "first");
        Check.due("input", machine.input(), 3);
        Check.due("input leaves what is told", machine.told(3), 5);
        Check.due("input leaves what was written", Check.output(machine), "first");
        Check.due("input: run on the second", machine.run(100), 0);
        Check.due("input: second", Check.output(machine), "2nd");
        Check.due("input: read", machine.told(3), 3);
        Check.due("input of nothing", machine.input(), 0);
        Check.due("input: run on nothing", machine.run(100), 0);
        Check.due("input: nothing", machine.written(), 0);
        Check.feed(machine, Check.repeated("y", 1500));
        Check.due("input of 1500", machine.input(), 1500);
        Check.due("input: run on 1500", machine.run(20000), 0);
        Check.due("input: all 1500", Check.output(machine), Check.repeated("y", 1500));
    }
}
