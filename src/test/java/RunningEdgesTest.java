/** "RUNNING" and the rows behind it: each sentence that names an edge, at it and one beyond it. */
public final class RunningEdgesTest {
    /** What is worked out writes its number. */
    private static final String TELLING = "type k=1..3;var i:integer;b:boolean;r:k;v:array[1..9]of integer;"
        + "function f(n:integer):integer;begin write(n);f:=n end;"
        + "function t(n:integer;x:boolean):boolean;begin write(n);t:=x end;"
        + "procedure p(x:k;y,z:integer);begin write('p')end;procedure q(x:integer;var y:integer);begin write('q')end;begin ";

    public static void main(String[] args) {
        undefinedUntilPut();
        leftToRight();
        elementFirst();
        andAndOrWithBothSides();
        argumentsOneByOne();
        roomBehindAllArguments();
        itemsOneByOne();
        stepsOfStatements();
        stepsOfLoops();
        numbersWrap();
        cutOff();
        valuesOfCharAndBoolean();
        forValueThenStep();
        forCountsByItself();
        undefinedBehindFor();
        valueOfFunction();
        undefinedTaken();
        undefinedFunction();
        byZero();
        outsideOfWhereItIsPut();
        outsideOfAnArray();
        outsideOfTheKind();
        elementsOfSets();
        noCase();
        noByteAnyMore();
        blanksBeforeNumbers();
        noNumber();
        allThatItWentOver();
        fourCells();
        cellsOfAllThatRun();
        blocksThatRun();
        muchAtOnce();
        bytesWritten();
        whatIsWritten();
        endsOfInput();
        Check.finish();
    }

    private static void tells(int answer, String marked, String written) {
        Check.runs(answer, TELLING + marked + " end.", "", written);
    }

    /** "Variables are UNDEFINED until something is put there." */
    private static void undefinedUntilPut() {
        Check.runs(1, "var i:integer;begin ^write(i)end.");
        Check.runs(1, "var c:char;begin ^write(c)end.");
        Check.runs(1, "var b:boolean;begin ^write(b)end.");
        Check.runs(1, "var s:set;begin ^if s=s then end.");
        Check.runs(1, "var r:0..5;begin ^write(r)end.");
        Check.runs(1, "var v:array[1..3]of integer;begin v[1]:=1;v[3]:=1;^write(v[2])end.");
        Check.runs(1, "var i,j:integer;begin i:=1;^write(j)end.");
        Check.runs(1, "procedure p;var i:integer;begin ^write(i)end;begin p end.");
        Check.runs(1, "procedure p(n:integer);var i:integer;begin if n=1 then i:=5 else ^write(i)end;begin p(1);p(2)end.");
        Check.runs(1, "procedure p(n:integer);var i:integer;begin if n=0 then ^write(i);i:=5;if n>0 then p(n-1)end;begin p(1)end.");
        Check.runs(0, "var i:integer;c:char;v:array[1..2]of integer;procedure p(var a:integer);begin a:=3 end;"
            + "procedure q(a:integer);begin write(a)end;begin read(i,c);write(i,c);p(v[1]);write(v[1]);q(4);"
            + "for i:=5 to 5 do write(i)end.", "1x", "1x345");
        Check.runs(0, "var i:integer;c:char;b:boolean;s:set;begin i:=0;c:=chr(0);b:=false;s:=[];"
            + "write(i,ord(c),b,s=[])end.", "", "00falsetrue");
    }

    /** "What happens, happens from left to right (... both ends of for, too)". */
    private static void leftToRight() {
        tells(0, "i:=f(1)+f(2)*f(3)-f(4)", "1234");
        tells(0, "i:=f(1)*f(2)+f(3)div f(4)mod f(5)", "12345");
        tells(0, "b:=f(1)=f(2)", "12");
        tells(0, "b:=f(1)+f(2)<f(3)*f(4)", "1234");
        tells(0, "b:=f(1)in[f(2),f(3)..f(4),f(5)]", "12345");
        tells(0, "b:=[f(1)]+[f(2)]=[f(3)]*[f(4)]", "1234");
        tells(0, "for i:=f(1)to f(2)do", "12");
        tells(0, "for i:=f(2)downto f(1)do", "21");
        tells(0, "for i:=f(3)to f(1)do", "31");
        tells(3, "^for r:=f(4)to f(5)do", "45");
        tells(2, "^for i:=f(1)to f(2)div 0 do", "12");
        tells(2, "^i:=f(1)div 0+f(2)", "1");
        tells(2, "^i:=f(1)+f(2)div 0+f(3)", "12");
        tells(1, "^i:=v[f(1)]+f(2)", "1");
        tells(1, "^i:=f(1)+i+f(2)", "1");
        tells(0, "case f(1)of 2:i:=f(2);1:i:=f(3)end", "13");
        tells(0, "if f(1)=f(1)then i:=f(2)else i:=f(3)", "112");
    }

    /** "the element of an array first, then what is put there". */
    private static void elementFirst() {
        tells(0, "v[f(1)]:=f(2);write(v[1])", "122");
        tells(3, "^v[f(0)]:=f(2)", "0");
        tells(2, "^v[f(1)]:=f(2)div 0", "12");
        tells(1, "^v[f(1)]:=v[f(2)]", "12");
        tells(3, "^v[10]:=1 div 0", "");
        tells(1, "^v[i]:=1 div 0", "");
        tells(0, "i:=1;v[i]:=2;v[v[i]]:=3;write(v[2])", "3");
        tells(0, "q(f(1),v[f(2)])", "12q");
        tells(3, "^q(f(1),v[f(0)])", "10");
        Check.runs(3, "var v:array[1..2]of char;begin ^read(v[3])end.", "", "");
        Check.runs(5, "var v:array[1..2]of char;begin ^read(v[1],v[3])end.", "", "");
        Check.runs(3, "var v:array[1..2]of char;begin ^read(v[1],v[3])end.", "a", "");
        Check.runs(0, "var i:integer;v:array[1..2]of integer;begin i:=1;read(i,v[i]);write(v[2])end.", "2 7", "7");
    }

    /** "and and or with both sides". */
    private static void andAndOrWithBothSides() {
        tells(0, "b:=t(1,false)and t(2,true);write(b)", "12false");
        tells(0, "b:=t(1,false)and t(2,false);write(b)", "12false");
        tells(0, "b:=t(1,true)or t(2,false);write(b)", "12true");
        tells(0, "b:=t(1,true)or t(2,true);write(b)", "12true");
        tells(0, "b:=t(1,false)and t(2,true)and t(3,true)or t(4,true)or t(5,false);write(b)", "12345true");
        tells(2, "^b:=false and(1 div 0=0)", "");
        tells(2, "^b:=true or(1 div 0=0)", "");
        tells(1, "^b:=false and b", "");
        tells(1, "^if true or b then", "");
    }

    /** "each argument is put to its parameter's range before the next one". */
    private static void argumentsOneByOne() {
        tells(0, "p(f(1),f(2),f(3))", "123p");
        tells(0, "p(f(3),f(4),f(5))", "345p");
        tells(3, "^p(f(4),f(5),f(6))", "4");
        tells(3, "^p(f(0),f(5),f(6))", "0");
        tells(3, "^p(4,1 div 0,1)", "");
        tells(2, "^p(1 div 0,i,1)", "");
        tells(1, "^p(1,i,1 div 0)", "");
        Check.runs(3, "type k=1..3;function f(a:integer;b:k):integer;begin f:=a end;begin write(f(9,3));^write(f(1,f(4,1)))end.",
            "", "9");
    }

    /** "room is looked at behind all". */
    private static void roomBehindAllArguments() {
        String full = "type k=1..2;var a,b,c,d,e:array[1..500]of char;g:array[1..491]of char;i:integer;"
            + "procedure p(x:k);begin end;function f:integer;begin write('f');f:=1 end;begin ";
        Check.runs(6, full + "^p(1)end.");
        Check.runs(3, full + "^p(3)end.");
        Check.runs(2, full + "^p(1 div 0)end.");
        Check.runs(1, full + "^p(i)end.");
        TaggedPascal machine = Check.runs(6, full + "^p(f)end.", "", "f");
        Check.told(machine, "room behind all", 3, 2, 3000, 0);
        Check.runs(6, "procedure p(n:integer);begin write(n mod 10);^p(n+1)end;begin p(1)end.", "",
            Check.repeated("1234567890", 20).substring(0, 199));
        Check.runs(2, "procedure p(n:integer);begin ^p(n+1+0 div(199-n))end;begin p(1)end.");
        Check.runs(6, "procedure p(n:integer);begin ^p(n+1+0 div(200-n))end;begin p(1)end.");
    }

    /** "each ITEM is written before the next one is worked out". */
    private static void itemsOneByOne() {
        tells(0, "write('a',f(1),'b',f(2),'cd')", "a11b22cd");
        tells(2, "^write('a',1 div 0)", "a");
        tells(2, "^write('ab',7,true,'c',1 div 0,8)", "ab7truec");
        tells(2, "^writeln('a',1 div 0)", "a");
        tells(1, "^write('a',i,'b')", "a");
    }

    private static void steps(int steps, String statements) {
        String source = "var i,j:integer;procedure n;begin end;procedure p;begin i:=1 end;function f:integer;begin f:=2 end;"
            + "begin " + statements + " end.";
        TaggedPascal machine = Check.stops(20000, 0, source);
        Check.due("steps of " + statements, machine.told(0), steps);
        Check.due("just enough for " + statements, machine.run(steps), 0);
        if (steps > 0) {
            Check.due("one too few for " + statements, machine.run(steps - 1), 7);
            Check.due("all of them made for " + statements, machine.told(0), steps - 1);
        }
    }

    /** "A STEP is each statement that begins, but for nothing and begin .. end". */
    private static void stepsOfStatements() {
        steps(0, "");
        steps(0, ";;;");
        steps(0, "begin end");
        steps(0, "begin begin;end;begin end end");
        steps(1, "i:=1");
        steps(1, ";i:=1;");
        steps(1, "begin begin i:=1 end end");
        steps(2, "i:=1;j:=2");
        steps(1, "n");
        steps(2, "p");
        steps(2, "i:=f");
        steps(3, "i:=f+f");
        steps(2, "write(f)");
        steps(1, "if true then");
        steps(1, "if true then else i:=1");
        steps(2, "if true then i:=1");
        steps(2, "if true then begin i:=1 end");
        steps(2, "if false then else i:=1");
        steps(2, "if f=2 then");
        steps(1, "case 1 of 1:end");
        steps(2, "case 1 of 1:i:=1 end");
        steps(3, "case f of 1:;2:i:=1;end");
        steps(1, "write(1)");
        steps(1, "write(1,2,'abc')");
        steps(1, "writeln");
        steps(1, "writeln(1,2)");
        Check.due("a step for read", Check.runs(0, "var c:char;begin read(c,c,c)end.", "abc", "").told(0), 1);
    }

    /** "and each time that a loop's inner statements begin (a repeat has its own step, too, once)". */
    private static void stepsOfLoops() {
        steps(1, "while false do");
        steps(2, "while f=1 do");
        steps(8, "i:=0;while i<3 do i:=i+1");
        steps(6, "i:=0;while i<2 do begin i:=i+1 end");
        steps(2, "repeat until true");
        steps(3, "repeat i:=1 until true");
        steps(4, "repeat i:=1;j:=2 until true");
        steps(8, "i:=0;repeat i:=i+1 until i=3");
        steps(1, "for i:=1 to 0 do");
        steps(2, "for i:=1 to 1 do");
        steps(4, "for i:=1 to 3 do");
        steps(4, "for i:=3 downto 1 do begin end");
        steps(7, "for i:=1 to 3 do j:=i");
        steps(9, "for i:=1 to 2 do for j:=1 to 2 do");
        TaggedPascal machine = Check.stops(20000, 7, "begin while true do end.");
        Check.told(machine, "20000 steps", 20000, 1, 4, 0);
        Check.told(Check.stops(20000, 7, "begin repeat until false end."), "20000 steps of repeat", 20000, 1, 4, 0);
        Check.told(Check.stops(20000, 0, "var i:integer;begin for i:=1 to 19999 do end."), "all steps", 20000, 1, 5, 0);
        Check.told(Check.stops(20000, 7, "var i:integer;begin for i:=1 to 20000 do end."), "one too many", 20000, 1, 5, 0);
    }

    /** "Numbers wrap". */
    private static void numbersWrap() {
        Check.does("write(2147483647+1)", "-2147483648");
        Check.does("write(2147483646+1)", "2147483647");
        Check.does("write(-2147483647-1)", "-2147483648");
        Check.does("write(-2147483647-2)", "2147483647");
        Check.does("write(2147483647*2,' ',65536*32768,' ',65536*65536,' ',-65536*32768)", "-2 -2147483648 0 -2147483648");
        Check.does("i:=-2147483647-1;write(-i);write(abs(i));write(i div(-1));write(i*(-1))",
            "-2147483648-2147483648-2147483648-2147483648");
        Check.does("i:=-2147483647-1;write(i mod(-1),i+i,i-1)", "002147483647");
        Check.does("write(sqr(46340),' ',sqr(46341),' ',sqr(65536),' ',sqr(-46341))", "2147395600 -2147479015 0 -2147479015");
        Check.does("write(succ(2147483647),pred(-2147483647-1),succ(-1),pred(0))", "-214748364821474836470-1");
        Check.does("write(2147483647*2147483647,abs(-2147483647))", "12147483647");
    }

    /** "div and mod are cut off". */
    private static void cutOff() {
        Check.does("write(7 div 2,' ',-7 div 2,' ',7 div(-2),' ',-7 div(-2),' ',1 div 2,' ',-1 div 2)", "3 -3 -3 3 0 0");
        Check.does("i:=-7;j:=-2;write(i div 2,' ',i div j,' ',7 div j,' ',i mod 2,' ',i mod j,' ',7 mod j)", "-3 3 -3 -1 -1 1");
        Check.does("i:=-6;write(i mod 3,i mod 4,6 mod 4,0 mod 5,0 div 5)", "0-2200");
        Check.does("write(2+3*4,' ',2*3+4,' ',2-3-4,' ',24 div 4 div 2,' ',-2+3,' ',-2-3*2,' ',7-2*3 mod 4)", "14 10 -5 3 1 -8 5");
        Check.does("s:=[1,2,3]-[2]*[3];write(s=[1,2,3]);s:=[1]+[2]-[1];write(s=[2]);write(1+1 in[2],true or true and false)",
            "truetruetruetrue");
        Check.does("for i:=-9 to 9 do for j:=1 to 4 do if(i div j*j+i mod j<>i)or(abs(i mod j)>=j)then write('x')", "");
    }

    /** "VALUES of char are 0 .. 255, of boolean 0, 1." */
    private static void valuesOfCharAndBoolean() {
        Check.does("write(ord(chr(0)),ord(chr(255)),ord(succ(chr(254))),ord(pred(chr(1))),ord(false),ord(true))", "0255255001");
        Check.does("write(succ(false),pred(true))", "truefalse");
        Check.does("for i:=0 to 255 do if ord(chr(i))<>i then write('x')", "");
        Check.does("for c:=chr(250)to chr(255)do write(ord(c)-249)", "123456");
        Check.does("for c:=chr(3)downto chr(0)do write(ord(c))", "3210");
        Check.does("for a:=false to true do write(a);for a:=true downto false do write(ord(a))", "falsetrue10");
        Check.does("write(chr(128)<chr(129),chr(127)<chr(128),chr(255)>chr(0))", "truetruetrue");
    }

    /** "A for gives its variable one value after the other (the value, then the step)". */
    private static void forValueThenStep() {
        Check.does("for i:=1 to 3 do write(i);for i:=3 downto 1 do write(i);for i:=2 to 2 do write(i)", "1233212");
        Check.does("for i:=2147483646 to 2147483647 do write(i,' ')", "2147483646 2147483647 ");
        Check.does("for i:=-2147483646 downto -2147483647-1 do write(i,' ')", "-2147483646 -2147483647 -2147483648 ");
        Check.does("for i:=-2147483647-1 to -2147483647 do write(i,' ')", "-2147483648 -2147483647 ");
        Check.does("for i:=2147483647 downto 2147483646 do write(i,' ')", "2147483647 2147483646 ");
        String source = "var r:1..3;begin for r:=1 to 4 do write(r)end.";
        Check.told(Check.stops(20000, 3, source), "a value outside", 7, 1, 5, 0);
        Check.told(Check.stops(7, 3, source), "the value before the step", 7, 1, 5, 0);
        Check.told(Check.stops(6, 7, source), "out of steps before the value", 6, 1, 5, 0);
        Check.told(Check.stops(1, 3, "var r:1..3;begin for r:=4 to 4 do end."), "the first value before the step", 1, 1, 5, 0);
        Check.told(Check.stops(1, 7, "var r:1..3;begin for r:=3 to 4 do end."), "a value that fits", 1, 1, 5, 0);
        Check.runs(3, "var r:1..3;begin ^for r:=2 to 5 do write(r)end.", "", "23");
        Check.runs(3, "var r:1..3;begin ^for r:=2 downto 0 do write(r)end.", "", "21");
        Check.runs(3, "var r:'a'..'c';begin ^for r:='b' to 'd' do write(r)end.", "", "bc");
    }

    /** "counted by itself". */
    private static void forCountsByItself() {
        Check.does("for i:=1 to 3 do begin write(i);i:=9;write(i)end", "192939");
        Check.does("for i:=3 downto 1 do begin write(i);i:=i-5 end", "321");
        Check.does("j:=3;for i:=1 to j do begin write(i);j:=1 end", "123");
        Check.does("j:=2;for j:=j to j+2 do write(j)", "234");
        Check.does("for i:=1 to 2 do for i:=5 to 6 do write(i)", "5656");
        Check.does("for i:=1 to 3 do begin write(i);for i:=1 to 0 do end", "123");
        Check.writes("var i:integer;procedure p;begin i:=7 end;begin for i:=1 to 3 do begin write(i);p end end.", "123");
        Check.writes("procedure p(n:integer);var i:integer;begin for i:=1 to 2 do begin write(n,i);if n>1 then p(n-1)end end;"
            + "begin p(2)end.", "211112221112");
    }

    /** "behind it (also with none) the variable is undefined". */
    private static void undefinedBehindFor() {
        Check.runs(1, "var i:integer;begin for i:=1 to 3 do;^write(i)end.");
        Check.runs(1, "var i:integer;begin for i:=3 downto 1 do;^write(i)end.");
        Check.runs(1, "var i:integer;begin i:=5;for i:=1 to 0 do;^write(i)end.");
        Check.runs(1, "var i:integer;begin i:=5;for i:=0 downto 1 do;^write(i)end.");
        Check.runs(1, "var i:integer;begin i:=5;for i:=i to 1 do;^write(i)end.");
        Check.runs(1, "var i:integer;begin for i:=1 to 3 do i:=8;^write(i)end.");
        Check.runs(1, "var i:integer;begin for i:=1 to 2 do begin for i:=1 to 0 do;^write(i)end end.");
        Check.runs(1, "var i:integer;procedure p(var a:integer);begin for a:=1 to 2 do end;begin i:=1;p(i);^write(i)end.");
        Check.runs(1, "procedure p(a:integer);begin for a:=2 to 1 do;^write(a)end;begin p(1)end.");
        Check.runs(1, "var v:array[1..3]of integer;procedure p(var a:integer);begin for a:=1 to 2 do end;"
            + "begin v[1]:=1;v[2]:=2;v[3]:=3;p(v[2]);write(v[1],v[3]);^write(v[2])end.", "", "13");
        Check.runs(1, "var c:char;begin for c:='a' to 'b' do;^write(c)end.");
        Check.runs(1, "var b:boolean;begin for b:=false to true do;^write(b)end.");
        Check.does("for i:=1 to 3 do;i:=4;write(i)", "4");
        Check.does("for r:=10 to 9 do;for r:=1 to 0 do;r:=2;write(r)", "2");
    }

    /** "What a function's name got is its value." */
    private static void valueOfFunction() {
        Check.writes("function f:integer;begin f:=1;f:=2 end;begin write(f)end.", "2");
        Check.writes("function f:integer;begin f:=1;if true then f:=3;write('x')end;begin write(f)end.", "x3");
        Check.writes("function f(n:integer):integer;begin f:=n;if n>0 then f:=f(n-1)+n end;begin write(f(4))end.", "10");
        Check.writes("function f:boolean;begin f:=false end;function g:char;begin g:='z' end;begin write(f,g)end.", "falsez");
        Check.writes("type s=set;function f:s;begin f:=[0,63]end;begin write(f=[63,0])end.", "true");
    }

    /** "1 something undefined is taken", wherever something can be taken. */
    private static void undefinedTaken() {
        String head = "var i,j:integer;c:char;b:boolean;s:set;v:array[1..2]of integer;w:array['a'..'b']of char;"
            + "procedure p(x:integer);begin end;function f(x:integer):integer;begin f:=1 end;begin j:=1;";
        String[] takes = {"j:=i", "j:=-i", "j:=+i", "j:=i+1", "j:=1+i", "j:=i*0", "j:=0*i", "j:=i div 1", "j:=1 mod i",
            "j:=(i)", "j:=abs(i)", "j:=sqr(i)", "j:=ord(c)", "c:=chr(i)", "c:=succ(c)", "c:=pred(c)", "b:=odd(i)", "b:=not b",
            "b:=b and true", "b:=true or b", "b:=i=1", "b:=1<i", "b:=c='a'", "b:=s=[]", "b:=[]<>s", "b:=i in[]", "b:=1 in s",
            "s:=[i]", "s:=[1..i]", "s:=[i..1]", "s:=[2..1,i]", "s:=s+[]", "s:=[]*s", "s:=s-s", "v[i]:=1", "j:=v[i]", "j:=v[1]",
            "w[c]:='a'", "c:=w['a']", "if b then", "while b do", "repeat until b", "case i of 1:end", "for j:=i to 2 do",
            "for j:=1 to i do", "for j:=2 downto i do", "write(i)", "writeln(c)", "write(b)", "p(i)", "p(v[2])", "j:=f(i)",
            "read(v[i])", "i:=i"};
        for (String statement : takes) {
            Check.runs(1, head + "^" + statement + " end.");
        }
        Check.runs(0, "var i:integer;c:char;v:array[1..2]of integer;procedure p(var x:integer);begin end;"
            + "begin p(i);p(v[1]);read(i,c);v[1]:=1 end.", "1a", "");
    }

    /** "(the value of a function when it ends)". */
    private static void undefinedFunction() {
        TaggedPascal machine = Check.runs(1, "var i:integer;function f:integer;begin write('f')end;begin i:=1;^i:=f end.", "", "f");
        Check.told(machine, "no value", 3, 2, 9, 0);
        Check.runs(1, "function f:integer;var f0:integer;begin f0:=1 end;begin ^write(f)end.");
        Check.runs(1, "type s=set;function f:s;begin end;begin ^if f=[]then end.");
        Check.runs(1, "function f(n:integer):char;begin if n=1 then f:='a' end;begin write(f(1));^write(f(2))end.", "", "a");
        Check.runs(1, "function f(n:integer):integer;begin if n>0 then f:=n else write('e')end;begin ^write(f(1)*f(0))end.",
            "", "e");
        Check.runs(1, "function f(n:integer):integer;begin if n>0 then ^f:=f(n-1)end;begin write(f(1))end.");
        Check.runs(1, "function f:integer;function g:integer;begin f:=1 end;begin ^f:=g end;begin write(f)end.");
    }

    /** "2 div or mod by 0." */
    private static void byZero() {
        Check.runs(2, "begin ^write(1 div 0)end.");
        Check.runs(2, "begin ^write(1 mod 0)end.");
        Check.runs(2, "begin ^write(0 div 0)end.");
        Check.runs(2, "begin ^write(0 mod 0)end.");
        Check.runs(2, "begin write(5 div 1,5 mod 1,0 div 5,-5 div(-1));^write(-5 div(1-1))end.", "", "5005");
    }

    /** "3 RANGE: something outside of the range of where it is put (a value for a parameter, ... a variable read, too)". */
    private static void outsideOfWhereItIsPut() {
        String head = "type k=-2..3;l='b'..'d';var i:integer;r:k;s:l;v:array[1..2]of k;procedure p(x:k);begin end;"
            + "procedure q(x:l);begin end;procedure w(var x:k;y:integer);begin <x:=y end;"
            + "function f(x:integer):k;begin >f:=x end;begin ";
        String plain = head.replace("<", "").replace(">", "");
        Check.runs(0, plain + "r:=-2;r:=3;s:='b';s:='d';v[1]:=-2;v[2]:=3;p(-2);p(3);q('b');q('d');w(r,-2);w(r,3);i:=f(-2)+f(3)end.");
        String[] wrong = {"r:=-3", "r:=4", "r:=2147483647", "r:=-2147483647-1", "s:='a'", "s:='e'", "s:=chr(0)", "s:=chr(255)",
            "v[1]:=-3", "v[2]:=4", "p(-3)", "p(4)", "q('a')", "q('e')", "for r:=-3 to 0 do", "for r:=4 to 5 do"};
        for (String statement : wrong) {
            Check.runs(3, plain + "^" + statement + " end.");
        }
        String inVar = head.replace("<", "^").replace(">", "");
        Check.runs(3, inVar + "w(r,4)end.");
        Check.runs(3, inVar + "w(v[1],-3)end.");
        String inFunction = head.replace("<", "").replace(">", "^");
        Check.runs(3, inFunction + "i:=f(4)end.");
        Check.runs(3, inFunction + "i:=f(-3)end.");
        String read = "var r:-2..3;c:'b'..'d';begin ^read(r)end.";
        Check.runs(3, read, "4", "");
        Check.runs(3, read, "-3", "");
        Check.runs(3, "var c:'b'..'d';begin ^read(c)end.", "a", "");
        Check.runs(3, "var c:'b'..'d';begin ^read(c)end.", "e", "");
        Check.runs(0, "var r:-2..3;c:'b'..'d';begin read(r,c);write(r,c);read(r,c);write(r,c)end.", "-2b 3d", "-2b3d");
        Check.runs(3, "var v:array[1..2]of 0..5;begin read(v[1]);^read(v[2])end.", "5 6", "");
        Check.runs(3, "type k=0..5;var r:k;procedure p(var x:k);begin ^read(x)end;begin p(r)end.", "6", "");
        Check.runs(3, "type k=0..5;procedure p(x:k);begin x:=5;^x:=6 end;begin p(1)end.");
        Check.runs(3, "type k=0..5;function f:k;procedure p;begin f:=5;^f:=6 end;begin p end;begin write(f)end.");
        Check.due("read outside: the bytes are read", Check.runs(3, read, " 44 5", "").told(3), 3);
        Check.runs(0, "type k=1..2;var i:integer;r:k;begin r:=2;i:=r+1;write(i,succ(r),r*5)end.", "", "3310");
    }

    /** "or of an array's". */
    private static void outsideOfAnArray() {
        String head = "var i:integer;c:char;v:array[-2..3]of integer;w:array['b'..'d']of char;procedure p(var x:integer);begin end;begin ";
        Check.runs(0, head + "v[-2]:=1;v[3]:=2;w['b']:='x';w['d']:='y';p(v[-2]);p(v[3]);i:=v[3]end.");
        String[] wrong = {"v[-3]:=1", "v[4]:=1", "i:=v[-3]", "i:=v[4]", "w['a']:='x'", "w['e']:='x'", "c:=w['a']", "c:=w[chr(255)]",
            "p(v[4])", "p(v[-3])", "read(v[4])", "v[2147483647]:=1", "v[-2147483647-1]:=1", "i:=v[2147483647]"};
        for (String statement : wrong) {
            Check.runs(3, head + "^" + statement + " end.");
        }
        Check.runs(3, "var v:array[2147483647..2147483647]of integer;begin v[2147483647]:=1;^v[-2147483647-1]:=1 end.");
    }

    /** "chr, succ, pred outside of the kind's values (of integer they wrap)". */
    private static void outsideOfTheKind() {
        String[] wrong = {"write(chr(256))", "write(chr(-1))", "write(chr(2147483647))", "write(chr(-2147483647-1))",
            "write(succ(chr(255)))", "write(pred(chr(0)))", "write(succ(true))", "write(pred(false))",
            "write(ord(succ(chr(255))))"};
        for (String statement : wrong) {
            Check.runs(3, "begin ^" + statement + " end.");
        }
        Check.does("c:=chr(255);c:=chr(0);c:=succ(chr(254));c:=pred(chr(1));a:=succ(false);a:=pred(true)", "");
        Check.does("i:=succ(2147483647);write(i);i:=pred(i);write(i)", "-21474836482147483647");
        Check.runs(0, "var r:'a'..'c';begin r:='c';write(succ(r),pred('a'))end.", "", "d`");
    }

    /** "an element that is put into a set not 0 .. 63 (of E .. E the ends, if there are any between; ...)". */
    private static void elementsOfSets() {
        String[] wrong = {"s:=[64]", "s:=[-1]", "s:=[1,64]", "s:=[-1,1]", "s:=[0..64]", "s:=[-1..63]", "s:=[63..64]", "s:=[-1..0]",
            "s:=[64..64]", "s:=[-1..-1]", "s:=[64..100]", "s:=[-9..-5]", "s:=[-2147483647..2147483647]", "s:=[2147483647]",
            "s:=[-2147483647-1]", "s:=[1..2,3..64]", "if 1 in[64]then", "if[64]=[]then"};
        for (String statement : wrong) {
            Check.runs(3, "var s:set;begin ^" + statement + " end.");
        }
        Check.runs(0, "var s:set;begin s:=[0];s:=[63];s:=[0..63];s:=[0..0];s:=[63..63];s:=[62..63,0..1]end.");
        Check.runs(0, "var s:set;begin s:=[64..63];s:=[0..-1];s:=[100..64];s:=[-5..-9];s:=[2147483647..-2147483647];"
            + "write(s=[])end.", "", "true");
        Check.does("s:=[5..4,7,9..9];write(s=[7,9])", "true");
        Check.does("s:=[0..63];write(64 in s,-1 in s,63 in s,0 in s,2147483647 in s,-2147483647-1 in s,128 in s,64 in[])",
            "falsefalsetruetruefalsefalsefalsefalse");
        Check.runs(3, "var s:set;begin ^s:=[64,1 div 0]end.");
        Check.runs(2, "var s:set;begin ^s:=[64..1 div 0]end.");
        Check.runs(3, "var s:set;begin ^s:=[1..64,1 div 0]end.");
    }

    /** "4 no case." */
    private static void noCase() {
        Check.runs(4, "begin ^case 0 of 1:write(1)end;write(2)end.");
        Check.runs(4, "begin ^case 2 of 1:write(1);;3:write(3);end end.");
        Check.runs(4, "begin ^case 'b' of 'a':;'c':end end.");
        Check.runs(4, "begin ^case true of false:end end.");
        Check.runs(4, "begin ^case -1 of 1:end end.");
        Check.runs(0, "begin case 1 of 1:end;case -1 of 1:;-1:end end.");
        TaggedPascal machine = Check.runs(4, "begin write('a');^case 3 of 1,2:write(1)end end.", "", "a");
        Check.told(machine, "no case", 2, 1, 4, 0);
    }

    private static void badRead(String source, String input, int read) {
        TaggedPascal machine = Check.runs(5, source, input, "");
        Check.due("bytes read of " + input, machine.told(3), read);
    }

    /** "5 read, where there is no byte any more". */
    private static void noByteAnyMore() {
        StringBuilder all = new StringBuilder();
        for (int b = 0; b <= 255; b++) {
            all.append((char) b);
        }
        Check.runs(0, "var c:char;i:integer;begin for i:=0 to 255 do begin read(c);if ord(c)<>i then write(i)end;write(eof)end.",
            all.toString(), "true");
        badRead("var c:char;begin ^read(c)end.", "", 0);
        badRead("var c:char;begin read(c);^read(c)end.", "a", 1);
        badRead("var c:char;begin ^read(c,c,c)end.", "ab", 2);
        badRead("var i:integer;begin ^read(i)end.", "", 0);
        badRead("var i:integer;begin read(i);^read(i)end.", "12", 2);
        Check.due("all bytes read", Check.runs(0, "var c:char;begin read(c,c)end.", "ab", "").told(3), 2);
    }

    /** "it goes over bytes not above 32". */
    private static void blanksBeforeNumbers() {
        for (int b = 0; b <= 255; b++) {
            String input = (char) b + "5";
            boolean figure = b >= '0' && b <= '9';
            if (b <= 32 || b == '+' || b == '-' || figure) {
                String due = b == '-' ? "-5" : b == '0' ? "5" : figure ? (char) b + "5" : "5";
                TaggedPascal machine = Check.runs(0, "var i:integer;begin read(i);write(i)end.", input, due);
                Check.due("bytes read behind byte " + b, machine.told(3), 2);
            } else {
                badRead("var i:integer;begin ^read(i)end.", input, 0);
            }
        }
        Check.runs(0, "var c:char;begin read(c);write(ord(c))end.", " 5", "32");
        badRead("var i:integer;begin ^read(i)end.", "{}5", 0);
    }

    /** "or no number: ... then perhaps + or -, figures, up to 2147483647". */
    private static void noNumber() {
        String source = "var i:integer;begin ^read(i)end.";
        badRead(source, "x", 0);
        badRead(source, "+", 1);
        badRead(source, "-x", 1);
        badRead(source, "--1", 1);
        badRead(source, "+-1", 1);
        badRead(source, "- 1", 1);
        badRead(source, " + 1", 2);
        badRead(source, "2147483648", 10);
        badRead(source, "-2147483648", 11);
        badRead(source, "+2147483648", 11);
        badRead(source, "4294967297", 10);
        badRead(source, "18446744073709551617", 20);
        badRead(source, "10000000000", 11);
        badRead(source, "'5'", 0);
        Check.runs(0, "var i:integer;begin while not eof do begin read(i);write(i,';')end end.",
            "2147483647 -2147483647+7-0 +00000000000000000000000002147483647\0-5", "2147483647;-2147483647;7;0;2147483647;-5;");
    }

    /** "(all that it went over is read: blanks, the sign, all figures that come)". */
    private static void allThatItWentOver() {
        String source = "var i:integer;begin ^read(i)end.";
        badRead(source, "  ", 2);
        badRead(source, " \n\t x", 4);
        badRead(source, "  -", 3);
        badRead(source, "  +x", 3);
        badRead(source, "  -99999999999999999999x", 23);
        badRead(source, "99999999999 1", 11);
        String fine = "var i:integer;c:char;begin read(i);if not eof then read(c)else c:='$';write(i,c)end.";
        Check.due("bytes read of a number", Check.runs(0, fine, " -12x3", "-12x").told(3), 5);
        Check.due("bytes read up to the end", Check.runs(0, fine, " 12", "12$").told(3), 3);
        Check.due("bytes read up to a sign", Check.runs(0, fine, "1-2", "1-").told(3), 2);
        Check.due("bytes read up to a blank", Check.runs(0, "var i:integer;begin read(i)end.", "12  ", "").told(3), 2);
    }

    private static void cells(int cells, String source) {
        TaggedPascal machine = Check.runs(0, source);
        Check.due("cells of " + source, machine.told(2), cells);
    }

    /** "a block that runs, the program's too, needs 4 cells (...), and one for each parameter, variable and element". */
    private static void fourCells() {
        cells(4, "begin end.");
        cells(4, "const a=1;type b=1..2;c=array[1..9]of char;begin end.");
        cells(5, "var a:integer;begin end.");
        cells(8, "var a:integer;b:char;c:boolean;d:set;begin end.");
        cells(14, "var a:array[1..10]of char;begin end.");
        cells(5, "var a:array[7..7]of set;begin end.");
        cells(30, "type r=array[0..9]of char;var a,b:r;c:array['a'..'e']of set;d:char;begin end.");
        cells(8, "procedure p;begin end;begin p end.");
        cells(8, "procedure p;begin end;begin p;p;p end.");
        cells(4, "procedure p;var a:array[1..9]of char;begin end;begin end.");
        cells(13, "var i:integer;procedure p(a,b:integer;var c:integer);var d:char;begin end;begin p(1,2,i)end.");
        cells(9, "var i:integer;function f:integer;begin f:=1 end;begin i:=f end.");
        cells(10, "var i:integer;function f(a:char):integer;begin f:=1 end;begin i:=f('a')end.");
        cells(12, "procedure p;procedure q;begin end;begin q end;begin p end.");
        cells(6, "var i,j:integer;begin for i:=1 to 2 do for j:=1 to 2 do end.");
        cells(9, "procedure p;var i:integer;begin for i:=1 to 2 do for i:=1 to 2 do end;begin p end.");
        cells(14, "function f(n:integer):integer;begin f:=n end;procedure p(a:integer);begin if f(a)=1 then end;"
            + "begin p(1);if f(f(1)+f(2))=f(3)then end.");
    }

    private static String wide(int cells) {
        return "a,b,c,d,e:array[1..500]of char;f:array[1.." + (cells - 2504) + "]of char;";
    }

    /** "all that run 3000". */
    private static void cellsOfAllThatRun() {
        Check.told(Check.runs(0, "var " + wide(3000) + "begin write(1)end.", "", "1"), "3000 cells", 1, 1, 3000, 0);
        Check.told(Check.runs(6, "var " + wide(3001 - 1) + "g:char;begin write(1)end."), "3001 cells", 0, 0, 0, 0);
        Check.told(Check.runs(0, "var " + wide(2996) + "procedure p;begin write(1)end;begin p end.", "", "1"),
            "3000 cells of two", 2, 2, 3000, 0);
        Check.told(Check.runs(6, "var " + wide(2997) + "procedure p;begin write(1)end;begin write(2);^p end.", "", "2"),
            "3001 cells of two", 2, 1, 2997, 0);
        String one = "procedure p(x:integer);begin write(x)end;begin ";
        Check.told(Check.runs(0, "var " + wide(2995) + one + "p(1)end.", "", "1"), "3000 with a parameter", 2, 2, 3000, 0);
        Check.told(Check.runs(6, "var " + wide(2996) + one + "^p(1)end."), "3001 with a parameter", 1, 1, 2996, 0);
        String byVar = "g:char;procedure p(var x:char);begin end;begin ";
        Check.told(Check.runs(0, "var " + wide(2994) + byVar + "p(g)end."), "3000 with a var parameter", 1, 2, 3000, 0);
        Check.told(Check.runs(6, "var " + wide(2995) + byVar + "^p(g)end."), "3001 with a var parameter", 1, 1, 2996, 0);
        String local = "procedure p;var x:integer;y:array[1..3]of char;begin end;begin ";
        Check.told(Check.runs(0, "var " + wide(2992) + local + "p end."), "3000 with variables", 1, 2, 3000, 0);
        Check.told(Check.runs(6, "var " + wide(2993) + local + "^p end."), "3001 with variables", 1, 1, 2993, 0);
        String value = "function g:integer;begin g:=1 end;begin ";
        Check.told(Check.runs(0, "var " + wide(2996) + value + "write(g)end.", "", "1"), "3000 with a value", 2, 2, 3000, 0);
        Check.told(Check.runs(6, "var " + wide(2997) + value + "^write(g)end."), "3001 with a value", 1, 1, 2997, 0);
        Check.told(Check.runs(0, "var " + wide(2999) + "i:integer;begin for i:=1 to 2 do end."), "a for's count", 3, 1, 3000, 0);
        Check.told(Check.runs(0, "var " + wide(2996) + "procedure p;begin end;begin p;p;p end."), "room again", 3, 2, 3000, 0);
        Check.told(Check.runs(6, "procedure p(n:integer);var v:array[1..495]of char;begin write(n);^p(n+1)end;begin p(1)end.", "",
            "12345"), "500 each", 11, 6, 2504, 0);
        Check.told(Check.runs(6, "var c:array[1..492]of char;procedure p(n:integer);var v:array[1..495]of char;"
            + "begin write(n);^p(n+1)end;begin p(1)end.", "", "12345"), "just not a sixth", 11, 6, 2996, 0);
        Check.told(Check.runs(6, "var c:array[1..495]of char;i:integer;procedure p(n:integer);var v:array[1..495]of char;"
            + "begin write(n);^p(n+1)end;begin p(1)end.", "", "12345"), "3000 and no more", 11, 6, 3000, 0);
    }

    /** "200 blocks that run". */
    private static void blocksThatRun() {
        String count = "procedure p(n:integer);begin if n>1 then ^p(n-1)end;begin p(@)end.";
        Check.told(Check.runs(0, count.replace("@", "199").replace("^", "")), "200 blocks", 398, 200, 999, 0);
        Check.told(Check.runs(6, count.replace("@", "200")), "201 blocks", 399, 200, 999, 0);
        Check.told(Check.runs(0, count.replace("p(@)", "p(199);p(199)").replace("^", "")), "200 blocks twice", 796, 200, 999, 0);
        String value = "function f(n:integer):integer;begin if n>1 then ^f:=f(n-1)else f:=0 end;begin write(f(@))end.";
        Check.told(Check.runs(0, value.replace("@", "199").replace("^", ""), "", "0"), "200 functions", 399, 200, 999, 0);
        Check.told(Check.runs(6, value.replace("@", "200")), "201 functions", 399, 200, 999, 0);
        Check.runs(6, "procedure p;begin ^p end;begin p end.");
        Check.told(Check.runs(6, "procedure p;procedure q;begin p end;begin ^q end;begin p end."), "in turn", 200, 200, 800, 0);
    }

    /** Blocks, cells and bytes are all the room there is: what is half worked out, or counted by a for, needs none. */
    private static void muchAtOnce() {
        Check.writes("function f(n:integer):integer;begin if n=0 then f:=0 else f:=" + Check.repeated("1+1*(", 15) + "f(n-1)"
            + Check.repeated(")", 15) + " end;begin write(f(198))end.", "2970");
        Check.writes("function f(n:integer):integer;begin if n=0 then f:=0 else f:=1+f(n-1)+0*(1+(2*(3-(4+n))))end;"
            + "begin write(f(198)+f(198))end.", "396");
        String loops = Check.repeated("for i:=1 to 1 do ", 15);
        Check.told(Check.runs(0, "procedure p(n:integer);var i:integer;begin " + loops + "if n>1 then p(n-1)else write('e')end;"
            + "begin p(199)end.", "", "e"), "loops within one another", 1 + 199 * 32, 200, 1198, 0);
        Check.runs(2, "procedure p(n:integer);var i:integer;begin " + loops + "if n>1 then p(n-1)else ^write(1 div 0)end;"
            + "begin p(199)end.");
        Check.writes("type s=set;function f(n:integer):s;begin if n=0 then f:=[63]else f:=[0]+([1]+([2]+f(n-1)))end;"
            + "begin write(f(198)=[0..2,63])end.", "true");
    }

    /** "1500 bytes written (what comes before that is)". */
    private static void bytesWritten() {
        String all = "var i:integer;begin for i:=1 to 1500 do write('x')";
        String full = Check.repeated("x", 1500);
        Check.runs(0, all + " end.", "", full);
        Check.runs(6, all + ";^write('y')end.", "", full);
        Check.runs(6, all + ";^write(1)end.", "", full);
        Check.runs(6, all + ";^write(-1)end.", "", full);
        Check.runs(6, all + ";^write(true)end.", "", full);
        Check.runs(6, all + ";^write('yz')end.", "", full);
        Check.runs(6, all + ";^writeln end.", "", full);
        Check.runs(0, all + ";i:=1 end.", "", full);
        String nearly = "var i:integer;begin for i:=1 to 1497 do write('x');";
        String bytes = Check.repeated("x", 1497);
        Check.runs(0, nearly + "write('abc')end.", "", bytes + "abc");
        Check.runs(6, nearly + "^write('abcd')end.", "", bytes + "abc");
        Check.runs(6, nearly + "^write('abcdefghij')end.", "", bytes + "abc");
        Check.runs(0, nearly + "write(123)end.", "", bytes + "123");
        Check.runs(6, nearly + "^write(1234)end.", "", bytes + "123");
        Check.runs(0, nearly + "write(-12)end.", "", bytes + "-12");
        Check.runs(6, nearly + "^write(-123)end.", "", bytes + "-12");
        Check.runs(6, nearly + "^write(true)end.", "", bytes + "tru");
        Check.runs(6, nearly + "^write(false)end.", "", bytes + "fal");
        Check.runs(0, nearly + "writeln('ab')end.", "", bytes + "ab\n");
        Check.runs(6, nearly + "^writeln('abc')end.", "", bytes + "abc");
        Check.runs(0, nearly + "writeln;writeln;writeln end.", "", bytes + "\n\n\n");
        Check.runs(6, nearly + "writeln;writeln;writeln;^writeln end.", "", bytes + "\n\n\n");
        Check.runs(2, nearly + "^write('abc',1 div 0)end.", "", bytes + "abc");
        Check.runs(6, nearly + "^write('abcd',1 div 0)end.", "", bytes + "abc");
        Check.runs(6, nearly + "write('ab','c');^write('d',1 div 0)end.", "", bytes + "abc");
    }

    /** "WRITTEN are of integers the figures (- before them, if below 0) ...; writeln writes byte 10 behind." */
    private static void whatIsWritten() {
        Check.does("write(0);write(-0);write(7);write(-7);write(10);write(-10);write(100)", "007-710-10100");
        Check.does("write(2147483647,-2147483647,-2147483647-1)", "2147483647-2147483647-2147483648");
        Check.does("write(9,99,999,9999,99999,999999,9999999,99999999,999999999)", "999999999999999999999999999999999999999999999");
        Check.does("write(1000000000,-1000000000,1000000001)", "1000000000-10000000001000000001");
        Check.does("write(true,false,1=1,1=2)", "truefalsetruefalse");
        Check.does("write('a',chr(0),chr(10),chr(127),chr(255),' ')", "a\0\n\177\377 ");
        Check.does("write('ab cd',' ','  ')", "ab cd   ");
        Check.does("writeln;writeln(1);writeln('a','bc',2);write('x')", "\n1\nabc2\nx");
        Check.does("r:=9;c:='q';write(r,c)", "9q");
    }

    /** "eoln is true at the input's end, and where the next byte is 10; eof at its end." */
    private static void endsOfInput() {
        String both = "begin write(eof,eoln)end.";
        Check.runs(0, both, "", "truetrue");
        for (int b = 0; b <= 255; b++) {
            Check.runs(0, both, String.valueOf((char) b), b == 10 ? "falsetrue" : "falsefalse");
        }
        Check.runs(0, both, "\n\n", "falsetrue");
        Check.runs(0, both, "a\n", "falsefalse");
        String behind = "var c:char;begin read(c);write(eof,eoln)end.";
        Check.runs(0, behind, "a", "truetrue");
        Check.runs(0, behind, "\n", "truetrue");
        Check.runs(0, behind, "a\n", "falsetrue");
        Check.runs(0, behind, "ab", "falsefalse");
        Check.runs(0, behind, "\na", "falsefalse");
        TaggedPascal machine = Check.runs(0, "var i:integer;begin read(i);write(eof,eoln,eof,eoln)end.", "1\n", "falsetruefalsetrue");
        Check.due("eof and eoln read nothing", machine.told(3), 1);
    }
}
