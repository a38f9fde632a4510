/** Promises 8 to 12: what a run answers, where it ended, and what is told and written then. */
public final class ErrorsTest {
    public static void main(String[] args) {
        undefined();
        division();
        ranges();
        noCase();
        badInput();
        roomForBlocks();
        toldAnew();
        roomForBytes();
        outOfSteps();
        stepsCounted();
        innermostStatement();
        orderOfThings();
        textAtItsEdges();
        wrongArguments();
        whatOtherCallsLeave();
        Check.finish();
    }

    private static void undefined() {
        TaggedPascal machine = Check.runs(1, "var i,j:integer;begin write(7);^i:=j;write(8)end.", "", "7");
        Check.told(machine, "undefined", 2, 1, 6, 0);
        Check.due("undefined: text", machine.text(0), '7');
        Check.runs(1, "var v:array[1..2]of integer;begin v[1]:=1;^v[2]:=v[2]end.");
        Check.runs(1, "var v:array[1..2]of integer;i:integer;begin ^v[i]:=1 end.");
        Check.runs(1, "var i:integer;procedure p(a:integer);begin end;begin ^p(i)end.");
        Check.runs(1, "var i:integer;procedure p(var a:integer);begin ^a:=a end;begin p(i)end.");
        Check.runs(0, "var i:integer;procedure p(var a:integer);begin end;begin p(i)end.");
        Check.runs(1, "var i:integer;begin for i:=1 to 3 do;^write(i)end.");
        Check.runs(1, "var i:integer;begin i:=5;for i:=3 to 1 do;^write(i)end.");
        Check.runs(1, "var i:integer;begin i:=5;for i:=1 downto 3 do;^i:=i end.");
        Check.runs(1, "var i:integer;procedure p(var a:integer);begin for a:=1 to 3 do end;begin i:=1;p(i);^i:=i end.");
        Check.runs(1, "var i,j:integer;begin for i:=1 to 3 do begin for i:=1 to 1 do;^j:=i end end.");
        Check.runs(1, "var i:integer;begin ^for i:=i to 3 do end.");
        Check.runs(1, "var i,j:integer;begin ^for i:=1 to j do end.");
        Check.runs(1, "var s:set;begin ^if s=[] then end.");
        Check.runs(1, "var a:boolean;begin ^while a do end.");
        Check.runs(1, "procedure p;var a:integer;procedure q;begin a:=1 end;begin q;a:=a end;procedure r;var a:integer;"
            + "begin ^a:=a end;begin p;r end.");
        functionWithoutValue();
    }

    private static void functionWithoutValue() {
        TaggedPascal machine = Check.runs(1, "var i:integer;function f:integer;begin i:=1 end;begin ^i:=f end.");
        Check.told(machine, "a function without a value", 2, 2, 9, 0);
        Check.runs(1, "function f(n:integer):integer;begin if n>0 then f:=f(n-1)end;begin ^write(f(0))end.");
        Check.runs(1, "function f(n:integer):integer;begin if n>0 then ^f:=f(n-1)end;begin write(f(3))end.");
        Check.runs(1, "function f:integer;function g:integer;begin f:=1 end;begin f:=2;^f:=g end;begin write(f)end.");
        Check.runs(1, "var i:integer;function f:boolean;begin end;begin i:=1;begin ^while f do i:=2 end end.");
    }

    private static void division() {
        TaggedPascal machine = Check.runs(2, "var i:integer;begin i:=0;^i:=1 div i end.");
        Check.told(machine, "division", 2, 1, 5, 0);
        Check.runs(2, "var i:integer;begin i:=0;^i:=1 mod i end.");
        Check.runs(2, "var i:integer;begin i:=0;^i:=i div i end.");
        Check.runs(2, "begin write(1);^write(2,1 div 0,3)end.", "", "12");
    }

    private static void ranges() {
        TaggedPascal machine = Check.runs(3, "var r:1..3;begin r:=1;r:=3;^r:=4 end.");
        Check.told(machine, "range", 3, 1, 5, 0);
        Check.runs(3, "var r:1..3;begin ^r:=0 end.");
        Check.runs(3, "var r:1..3;begin r:=3;^r:=r+1 end.");
        Check.runs(3, "var r:'b'..'d';begin r:='b';r:='d';^r:='a' end.");
        Check.runs(3, "var r:'b'..'d';begin ^r:='e' end.");
        Check.runs(3, "var v:array[1..3]of integer;i:integer;begin v[1]:=1;v[3]:=3;i:=0;^v[i]:=1 end.");
        Check.runs(3, "var v:array[1..3]of integer;begin ^v[4]:=1 end.");
        Check.runs(3, "var v:array[1..3]of integer;begin ^write(v[4])end.");
        Check.runs(3, "var v:array[1..3]of integer;begin ^write(v[-2147483647])end.");
        Check.runs(3, "var v:array[1..3]of 0..5;begin v[1]:=5;^v[2]:=6 end.");
        Check.runs(3, "type r=1..3;procedure p(a:r);begin end;begin p(3);^p(4)end.");
        Check.runs(3, "type r=1..3;var i:r;procedure p(var a:r);begin ^a:=4 end;begin p(i)end.");
        Check.runs(3, "type r=1..3;function f(n:integer):r;begin ^f:=n end;begin write(f(3),f(0))end.", "", "3");
        Check.runs(3, "var r:1..3;begin ^read(r)end.", "4", "");
        Check.runs(3, "var c:'a'..'c';begin ^read(c)end.", "d", "");
        Check.runs(3, "var c:char;begin c:=chr(255);c:=chr(0);^c:=chr(256)end.");
        Check.runs(3, "var c:char;begin ^c:=chr(-1)end.");
        Check.runs(3, "var c:char;begin c:=chr(255);^c:=succ(c)end.");
        Check.runs(3, "var c:char;begin c:=chr(0);^c:=pred(c)end.");
        Check.runs(3, "begin ^write(succ(true))end.");
        Check.runs(3, "begin ^write(pred(false))end.");
        Check.runs(3, "var r:1..3;begin r:=3;write(succ(r));^r:=succ(r)end.", "", "4");
        Check.runs(3, "var r:1..3;begin ^for r:=1 to 5 do write(r)end.", "", "123");
        Check.runs(3, "var r:1..3;begin ^for r:=2 downto 0 do write(r)end.", "", "21");
        Check.runs(3, "var r:1..3;begin ^for r:=0 to 2 do write(r)end.");
        setElements();
        readOutside();
    }

    private static void setElements() {
        Check.runs(3, "var s:set;begin s:=[63,0];^s:=[64]end.");
        Check.runs(3, "var s:set;begin ^s:=[-1]end.");
        Check.runs(3, "var s:set;begin s:=[0..63];^s:=[0..64]end.");
        Check.runs(3, "var s:set;begin ^s:=[-1..0]end.");
        Check.runs(3, "var s:set;begin ^s:=[64..64]end.");
        Check.runs(3, "var s:set;begin ^s:=[-5..-5]end.");
        Check.runs(3, "var s:set;begin ^s:=[1,64,1 div 0]end.");
        Check.runs(2, "var s:set;begin ^s:=[64..1 div 0]end.");
        Check.runs(0, "var s:set;begin s:=[64..1,5..-1]end.");
    }

    private static void readOutside() {
        TaggedPascal machine = Check.runs(3, "var r:1..3;begin read(r);write(r);^read(r,r)end.", "2 77 1", "2");
        Check.told(machine, "read outside", 3, 1, 5, 4);
    }

    private static void noCase() {
        TaggedPascal machine = Check.runs(4, "begin write('a');^case 3 of 1:write(1);2:write(2)end;write(3)end.", "", "a");
        Check.told(machine, "no case", 2, 1, 4, 0);
        Check.runs(4, "begin case 1 of 1:begin end end;^case 'a' of 'b':end end.");
        Check.runs(4, "begin case 1 of 1:^case true of false:end;2:end end.");
    }

    private static void badInput() {
        String number = "var i:integer;begin ^read(i)end.";
        read(number, "", 0);
        read(number, " \n ", 3);
        read(number, "x", 0);
        read(number, " -x", 2);
        read(number, "+", 1);
        read(number, "--1", 1);
        read(number, "- 1", 1);
        read(number, " 2147483648 ", 11);
        read(number, "-2147483648", 11);
        read(number, "99999999999999999999999999x", 26);
        read(number, "\377", 0);
        read("var c:char;begin ^read(c)end.", "", 0);
        TaggedPascal machine = Check.runs(5, "var i,j:integer;begin read(i);write(i);^read(j,i)end.", "1 2", "1");
        Check.told(machine, "bad input", 3, 1, 6, 3);
    }

    private static void read(String source, String input, int read) {
        TaggedPascal machine = Check.runs(5, source, input, "");
        Check.due("bytes read of <" + input + ">", machine.told(3), read);
    }

    private static void roomForBlocks() {
        TaggedPascal machine = Check.runs(6, "procedure p(n:integer);begin write('.');^p(n+1)end;begin p(1)end.", "",
            Check.repeated(".", 199));
        Check.told(machine, "200 blocks", 399, 200, 999, 0);
        machine = Check.runs(6, "procedure p;var v:array[1..144]of char;begin ^p end;begin p end.");
        Check.told(machine, "cells of many blocks", 21, 21, 2964, 0);
        machine = Check.runs(0, "var a,b,c,d,e:array[1..500]of char;f:array[1..496]of char;begin end.");
        Check.told(machine, "3000 cells", 0, 1, 3000, 0);
        machine = Check.runs(6, "var a,b,c,d,e:array[1..500]of char;f:array[1..497]of char;begin write(1)end.");
        Check.told(machine, "no room for the program", 0, 0, 0, 0);
        machine = Check.runs(0, "var a,b,c,d,e:array[1..500]of char;f:array[1..490]of char;x:char;"
            + "procedure p(var y:char);begin end;begin p(x)end.");
        Check.told(machine, "a block that just fits", 1, 2, 3000, 0);
        machine = Check.runs(6, "var a,b,c,d,e:array[1..500]of char;f:array[1..490]of char;x:char;"
            + "procedure p(var y:char);var z:char;begin end;begin ^p(x)end.");
        Check.told(machine, "a block too many", 1, 1, 2995, 0);
        Check.runs(6, "function f(n:integer):integer;begin ^f:=f(n+1)end;begin write(f(0))end.");
        Check.runs(3, "type r=1..2;var a,b,c,d,e:array[1..500]of char;f:array[1..496]of char;"
            + "procedure p(x,y:r);begin end;begin ^p(1,3)end.");
        machine = Check.runs(0, "procedure p(n:integer);begin if n>1 then p(n-1)end;begin p(199);p(199)end.");
        Check.told(machine, "200 blocks twice", 2 + 2 * (199 + 198), 200, 999, 0);
    }

    private static void toldAnew() {
        TaggedPascal machine = Check.compiled("var c:char;procedure p(n:integer);begin if n>0 then p(n-1)end;"
            + "begin p(9);read(c);write(c)end.", "q");
        Check.due("told anew: run", machine.run(99), 0);
        Check.told(machine, "ten calls", 22, 11, 55, 1);
        machine.wipe();
        Check.feed(machine, "begin end.");
        machine.compile();
        Check.due("told anew: run of nothing", machine.run(99), 0);
        Check.told(machine, "nothing", 0, 1, 4, 0);
        machine.run(99);
        machine.wipe();
        Check.feed(machine, "type r=array[1..500]of char;var a,b,c,d,e,f:r;begin write(1)end.");
        machine.compile();
        Check.due("told anew: no room", machine.run(99), 6);
        Check.told(machine, "no room", 0, 0, 0, 0);
        Check.due("told anew: nothing written", machine.written(), 0);
        Check.due("told anew: nowhere", machine.where(), -1);
    }

    private static void roomForBytes() {
        String loop = "var i:integer;begin for i:=1 to 1500 do write('x')";
        TaggedPascal machine = Check.runs(0, loop + " end.", "", Check.repeated("x", 1500));
        Check.told(machine, "1500 bytes", 3001, 1, 5, 0);
        machine = Check.runs(6, loop + ";^write('y')end.", "", Check.repeated("x", 1500));
        Check.told(machine, "1501 bytes", 3002, 1, 5, 0);
        Check.runs(6, loop + ";^writeln end.", "", Check.repeated("x", 1500));
        String nearly = "var i:integer;begin for i:=1 to 1498 do write('x');";
        String bytes = Check.repeated("x", 1498);
        Check.runs(6, nearly + "^write('abc')end.", "", bytes + "ab");
        Check.runs(6, nearly + "^write(-12)end.", "", bytes + "-1");
        Check.runs(6, nearly + "^write(true)end.", "", bytes + "tr");
        Check.runs(6, nearly + "write('a');^writeln('b')end.", "", bytes + "ab");
        Check.runs(0, nearly + "writeln('b')end.", "", bytes + "b\n");
        Check.runs(2, nearly + "^write('ab',1 div 0)end.", "", bytes + "ab");
        machine = Check.compiled(nearly + "write('abc')end.");
        machine.run(20000);
        Check.due("text at the end", machine.text(1496), 0x62617878L);
    }

    private static void outOfSteps() {
        TaggedPascal machine = Check.compiled("begin write(1);write(2);write(3)end.");
        Check.due("run(3)", machine.run(3), 0);
        Check.due("run(2)", machine.run(2), 7);
        Check.due("out of steps: where", machine.where(), -1);
        Check.due("out of steps: output", Check.output(machine), "12");
        Check.told(machine, "out of steps", 2, 1, 4, 0);
        Check.due("run(0)", machine.run(0), 7);
        Check.due("run(0): nothing written", machine.written(), 0);
        Check.told(machine, "no steps", 0, 1, 4, 0);
        Check.due("run(20000)", machine.run(20000), 0);
        TaggedPascal endless = Check.compiled("begin while true do end.");
        Check.due("endless", endless.run(20000), 7);
        Check.told(endless, "endless", 20000, 1, 4, 0);
        endless = Check.compiled("begin repeat until false end.");
        Check.due("endless repeat", endless.run(20000), 7);
        endless = Check.compiled("var i:integer;begin for i:=1 to 2147483647 do end.");
        Check.due("long for", endless.run(20000), 7);
        Check.told(endless, "long for", 20000, 1, 5, 0);
        TaggedPascal none = Check.compiled("begin begin;;begin end end end.");
        Check.due("nothing takes no step", none.run(0), 0);
        TaggedPascal range = Check.compiled("var r:1..2;begin for r:=3 to 3 do end.");
        Check.due("the value comes before the step", range.run(1), 3);
        Check.due("an error behind the last step", Check.compiled("begin write(1 div 0)end.").run(1), 2);
        Check.due("no step, no error", Check.compiled("begin write(1 div 0)end.").run(0), 7);
    }

    private static void steps(String statements, int steps) {
        TaggedPascal machine = Check.compiled("var i,j:integer;procedure p;begin end;procedure q;begin i:=1 end;"
            + "function f:integer;begin f:=1 end;begin " + statements + " end.");
        Check.due("run of " + statements, machine.run(20000), 0);
        Check.due("steps of " + statements, machine.told(0), steps);
        if (steps > 0) {
            Check.due("too few steps for " + statements, machine.run(steps - 1), 7);
        }
        Check.due("just enough steps for " + statements, machine.run(steps), 0);
    }

    private static void stepsCounted() {
        steps("", 0);
        steps(";;", 0);
        steps("begin begin end;end", 0);
        steps("i:=1", 1);
        steps("i:=1;begin i:=2 end", 2);
        steps("if true then", 1);
        steps("if true then i:=1 else i:=2", 2);
        steps("if false then i:=1 else begin i:=2;i:=3 end", 3);
        steps("while false do i:=1", 1);
        steps("i:=0;while i<3 do i:=i+1", 8);
        steps("repeat until true", 2);
        steps("i:=0;repeat i:=i+1;j:=i until i=3", 11);
        steps("for i:=1 to 0 do", 1);
        steps("for i:=1 to 3 do", 4);
        steps("for i:=1 to 3 do j:=i", 7);
        steps("for i:=3 downto 1 do begin j:=i;j:=1 end", 10);
        steps("case 1 of 1:end", 1);
        steps("case 1 of 1:i:=1 end", 2);
        steps("write(1,2,3)", 1);
        steps("writeln", 1);
        steps("p", 1);
        steps("q", 2);
        steps("i:=f+f", 3);
    }

    private static void innermostStatement() {
        Check.runs(2, "var i:integer;begin begin begin ^i:=1 div 0 end end end.");
        Check.runs(2, "var i:integer;begin if true then ^i:=1 div 0 end.");
        Check.runs(2, "var i:integer;begin ^if 1 div 0=0 then i:=1 end.");
        Check.runs(2, "var i:integer;begin i:=2;^while 1 div i<5 do i:=i-1 end.");
        Check.runs(2, "var i:integer;begin i:=2;^repeat i:=i-1 until 1 div i=0 end.");
        Check.runs(2, "var i:integer;begin repeat i:=0;begin ^i:=1 div i end until false end.");
        Check.runs(2, "var i:integer;begin ^for i:=1 to 1 div 0 do i:=1 end.");
        Check.runs(2, "var i:integer;begin for i:=1 to 2 do ^write(1 div(2-i))end.", "", "1");
        Check.runs(2, "var i:integer;begin ^case 1 div 0 of 1:end end.");
        Check.runs(2, "var i:integer;begin case 1 of 2:;1:^i:=1 div 0 end end.");
        Check.runs(2, "procedure p;begin ^write(1 div 0)end;begin p end.");
        Check.runs(2, "function f:integer;begin ^f:=1 div 0 end;begin write(f)end.");
        Check.runs(2, "procedure p(n:integer);begin end;begin ^p(1 div 0)end.");
        Check.runs(2, "function f:integer;begin f:=0 end;begin ^write(1 div f)end.");
        TaggedPascal machine = Check.compiled("begin write(1 div 0)end.");
        machine.wipe();
        Check.feed(machine, "      begin end.");
        Check.due("where: run", machine.run(9), 2);
        Check.due("where on the tape, when it was compiled", machine.where(), 6);
    }

    private static void orderOfThings() {
        Check.runs(3, "var v:array[1..2]of integer;begin ^v[3]:=1 div 0 end.");
        Check.runs(2, "var r:1..2;begin ^r:=1 div 0 end.");
        Check.runs(2, "begin ^write(1 div 0+ord(chr(300)))end.");
        Check.runs(3, "begin ^write(ord(chr(300))+1 div 0)end.");
        Check.runs(2, "begin ^write((1=2)and(1 div 0=0))end.");
        Check.runs(2, "begin ^write((1=1)or(1 div 0=0))end.");
        Check.runs(3, "type r=1..2;procedure p(a:r;b:integer);begin end;begin ^p(3,1 div 0)end.");
        Check.runs(2, "type r=1..2;procedure p(a:integer;b:r);begin end;begin ^p(1 div 0,3)end.");
        Check.runs(3, "var i:integer;v:array[1..2]of char;begin ^read(v[3])end.", "", "");
        Check.runs(5, "var i:integer;v:array[1..2]of char;begin ^read(i,v[3])end.", "", "");
        Check.runs(2, "var i:integer;begin ^for i:=1 div 0 to ord(chr(300)) do end.");
        Check.runs(1, "var j:integer;begin ^write(j+1 div 0)end.");
        Check.runs(1, "var i:integer;begin ^i:=i div 0 end.");
    }

    private static void textAtItsEdges() {
        TaggedPascal machine = Check.runs(0, "begin write('abcdefghij',chr(255))end.", "", "abcdefghij\377");
        Check.due("written", machine.written(), 11);
        Check.due("text(0)", machine.text(0), 0x6867666564636261L);
        Check.due("text(1)", machine.text(1), 0x6968676665646362L);
        Check.due("text(3)", machine.text(3), 0xff6a696867666564L);
        Check.due("text(8)", machine.text(8), 0xff6a69L);
        Check.due("text(10)", machine.text(10), 0xffL);
        Check.due("text(11)", machine.text(11), 0);
        Check.due("text(-1)", machine.text(-1), 0x6766656463626100L);
        Check.due("text(-7)", machine.text(-7), 0x6100000000000000L);
        Check.due("text(-8)", machine.text(-8), 0);
        Check.due("text of the greatest", machine.text(Integer.MAX_VALUE), 0);
        Check.due("text of the least", machine.text(Integer.MIN_VALUE), 0);
        machine.wipe();
        Check.feed(machine, "begin write('z')end.");
        machine.compile();
        Check.due("run of less", machine.run(9), 0);
        Check.due("text of less", machine.text(0), 'z');
        Check.due("written of less", machine.written(), 1);
    }

    private static void wrongArguments() {
        TaggedPascal machine = Check.compiled("var c:char;begin read(c);write(c);read(c)end.", "q");
        Check.due("run", machine.run(20000), 5);
        int[] steps = {-1, 20001, Integer.MIN_VALUE, Integer.MAX_VALUE};
        for (int k : steps) {
            Check.due("run throws for " + k, Check.runThrows(machine, k) ? 1 : 0, 1);
        }
        int[] what = {-1, 4, Integer.MIN_VALUE, Integer.MAX_VALUE};
        for (int k : what) {
            Check.due("told throws for " + k, Check.toldThrows(machine, k) ? 1 : 0, 1);
        }
        Check.due("a throw leaves where", machine.where(), 34);
        Check.due("a throw leaves the text", Check.output(machine), "q");
        Check.told(machine, "behind throws", 3, 1, 5, 1);
        TaggedPascal fresh = new TaggedPascal();
        Check.due("run throws on a new object", Check.runThrows(fresh, -1) ? 1 : 0, 1);
        Check.told(fresh, "a run that threw", 0, 0, 0, 0);
    }

    private static void whatOtherCallsLeave() {
        TaggedPascal machine = Check.compiled("var c:char;begin read(c);write(c);read(c)end.", "q");
        machine.run(20000);
        Check.feed(machine, "begin end.");
        machine.compile();
        machine.wipe();
        Check.feed(machine, "begin");
        machine.compile();
        machine.fault();
        machine.place();
        machine.input();
        Check.due("other calls leave where", machine.where(), 34);
        Check.due("other calls leave the text", Check.output(machine), "q");
        Check.told(machine, "other calls", 3, 1, 5, 1);
        Check.due("the next run", machine.run(0), 0);
        Check.due("the next run's where", machine.where(), -1);
        Check.due("the next run's bytes", machine.written(), 0);
        Check.due("the next run's text", machine.text(0), 0);
        Check.told(machine, "the next run", 0, 1, 4, 0);
    }
}
