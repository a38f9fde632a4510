/** Promise 8 and the rules of RUNNING: what a program that goes right does. */
public final class RunningTest {
    public static void main(String[] args) {
        numbers();
        kinds();
        sets();
        comparisons();
        standardFunctions();
        writing();
        choices();
        loops();
        arrays();
        procedures();
        functions();
        nestedBlocks();
        reading();
        runAgain();
        longPrograms();
        Check.finish();
    }

    private static void numbers() {
        Check.does("write(1+2*3-4,' ',(1+2)*3,' ',-2+3,' ',-2*3,' ',+5)", "3 9 1 -6 5");
        Check.does("write(7 div 2,' ',-7 div 2,' ',7 div(-2),' ',-7 div(-2))", "3 -3 -3 3");
        Check.does("write(7 mod 3,' ',-7 mod 3,' ',7 mod(-3),' ',-7 mod(-3))", "1 -1 1 -1");
        Check.does("write(2147483647+1,' ',-2147483647-2,' ',65536*65536,' ',65537*65537)",
            "-2147483648 2147483647 0 131073");
        Check.does("i:=-2147483647-1;write(-i,' ',i div(-1),' ',i mod(-1),' ',abs(i),' ',sqr(i),' ',i-1)",
            "-2147483648 -2147483648 0 -2147483648 0 2147483647");
        Check.does("write(succ(2147483647),' ',pred(-2147483647-1),' ',sqr(46341))", "-2147483648 2147483647 -2147479015");
        Check.does("write(100-10-1,' ',100 div 10 div 2,' ',2*3 mod 4)", "89 5 2");
    }

    private static void kinds() {
        Check.does("a:=true;b:=not a;write(a,b,a and b,a or b,not b,a and not b)", "truefalsefalsetruetruetrue");
        Check.does("a:=false or true and false;write(a,true or true and false)", "falsetrue");
        Check.does("c:='q';write(c,ord(c))", "q113");
        Check.does("r:=9;i:=r+1;write(i)", "10");
    }

    private static void sets() {
        String all = ";for i:=0 to 63 do if i in s then write(i,' ')";
        Check.does("s:=[3,1,5..7,9..8]" + all, "1 3 5 6 7 ");
        Check.does("s:=[1,2,3]+[3,4]" + all, "1 2 3 4 ");
        Check.does("s:=[1,2,3]-[3,4]" + all, "1 2 ");
        Check.does("s:=[1,2,3]*[3,4,2]" + all, "2 3 ");
        Check.does("s:=[0,63];t:=[0..63];write(s=t*s,t-s=[1..62],t=[0..31]+[32..63])", "truetruetrue");
        Check.does("s:=[];write(s=[],s<>[],1 in s,[1,2]=[2,1,2])", "truefalsefalsetrue");
        Check.does("s:=[0..63];write(-1 in s,64 in s,0 in s,63 in s,2147483647 in s,-2147483647 in s)",
            "falsefalsetruetruefalsefalse");
        Check.does("s:=[64..63,5..-5,2147483647..-2147483647];write(s=[])", "true");
    }

    private static void comparisons() {
        Check.does("write(1<2,2<2,1<=2,2<=2,3<=2)", "truefalsetruetruefalse");
        Check.does("write(3>2,2>2,1>=2,2>=2,1=2,2=2,1<>2,2<>2)", "truefalsefalsetruefalsetruetruefalse");
        Check.does("write('a'<'b','a'='a','a'>'b',false<true,true<=false,true=true,true<>true)",
            "truetruefalsetruefalsetruefalse");
        Check.does("write(-2147483647<2147483647,1+1=2,-1<0)", "truetruetrue");
    }

    private static void standardFunctions() {
        Check.does("write(ord('a'),ord(false),ord(true),ord(-5),chr(65),chr(255)=chr(255))", "9701-5Atrue");
        Check.does("write(succ('a'),pred('b'),succ(1),pred(1),succ(false),pred(true))", "ba20truefalse");
        Check.does("write(odd(1),odd(2),odd(-1),odd(-2),odd(0))", "truefalsetruefalsefalse");
        Check.does("write(abs(-5),abs(5),sqr(-5),abs(0))", "55250");
        Check.writes("function abs(x:integer):integer;begin abs:=x+1 end;begin write(abs(-5))end.", "-4");
    }

    private static void writing() {
        Check.does("write(0,-0,10,-10,2147483647,-2147483647-1,1000000000)", "0010-102147483647-21474836481000000000");
        Check.does("write('a','bc',true,false);writeln;writeln('x',1);writeln", "abctruefalse\nx1\n\n");
        Check.does("write(chr(0),chr(200),chr(10))", "\0\310\n");
        Check.does("i:=5;write(i,i+1,(i))", "565");
    }

    private static void choices() {
        Check.does("if true then write(1)else write(2);if false then write(3)else write(4)", "14");
        Check.does("if false then write(1);write(2)", "2");
        Check.does("if true then if false then write(1)else write(2)", "2");
        Check.does("for i:=1 to 6 do case i of 1:write('a');2,4:write('b');6:;3,5:begin write('c');write('d')end end",
            "abcdbcd");
        Check.does("case 'b' of 'a':write(1);'b':write(2)end;case 1>2 of true:write(3);false:write(4);end", "24");
        Check.does("case -3 of 3:write(1);-3:write(2)end", "2");
        Check.does("for i:=1 to 2 do for j:=1 to 2 do case i of 1:case j of 1:write(11);2:write(12)end;2:write(2)end",
            "111222");
    }

    private static void loops() {
        Check.does("i:=0;while i<5 do begin write(i);i:=i+1 end;while false do write('x')", "01234");
        Check.does("i:=0;repeat write(i);i:=i+1;until i>=3;repeat write('y')until true", "012y");
        Check.does("for i:=1 to 3 do write(i);for i:=3 downto 1 do write(i);for i:=3 to 1 do write('x')", "123321");
        Check.does("for i:=1 downto 3 do write('x');for i:=2 to 2 do write(i);for i:=2 downto 2 do write(i)", "22");
        Check.does("for c:='a' to 'e' do write(c);for a:=false to true do write(a);for a:=true downto false do write(a)",
            "abcdefalsetruetruefalse");
        Check.does("for i:=1 to 3 do begin write(i);i:=7;write(i)end", "172737");
        Check.does("j:=3;for i:=1 to j do begin j:=1;write(i)end", "123");
        Check.does("for i:=2147483646 to 2147483647 do write(i,' ')", "2147483646 2147483647 ");
        Check.does("for i:=-2147483647 downto -2147483647-1 do write(i)", "-2147483647-2147483648");
        Check.does("for r:=1 to 9 do write(r)", "123456789");
        Check.does("for c:=chr(254) to chr(255) do write(ord(c));for c:=chr(1) downto chr(0) do write(ord(c))", "25425510");
        Check.does("for r:=10 to 9 do;for r:=0 downto 1 do;write(1)", "1");
        Check.does("for i:=1 to 3 do for i:=5 to 6 do write(i)", "565656");
    }

    private static void arrays() {
        Check.does("for i:=1 to 9 do v[i]:=i*i;for i:=9 downto 1 do write(v[i],' ')", "81 64 49 36 25 16 9 4 1 ");
        Check.does("v[1]:=2;v[2]:=3;v[3]:=9;write(v[v[v[1]]])", "9");
        Check.writes("var x:array['a'..'c']of 0..5;c:char;begin for c:='a' to 'c' do x[c]:=ord(c)-97;"
            + "for c:='a' to 'c' do write(x[c])end.", "012");
        Check.writes("var x:array[-2..2]of set;i:integer;begin for i:=-2 to 2 do x[i]:=[i+2];"
            + "for i:=-2 to 2 do write(i+2 in x[i],i in x[i])end.", "truefalsetruefalsetruefalsetruefalsetruefalse");
        Check.writes("var a:integer;x:array[1..500]of integer;b:integer;begin a:=1;b:=2;x[1]:=3;x[500]:=4;"
            + "write(a,x[1],x[500],b)end.", "1342");
    }

    private static void procedures() {
        Check.writes("procedure p(a,b:integer;c:char);begin write(a,b,c)end;begin p(1,2,'x')end.", "12x");
        Check.writes("var i:integer;procedure p(a:integer);begin a:=a+1;write(a)end;begin i:=1;p(i);write(i)end.", "21");
        Check.writes("var i:integer;procedure p(var a:integer);begin a:=a+1;write(a)end;begin i:=1;p(i);write(i)end.", "22");
        Check.writes("var i:integer;procedure p(var a:integer);begin a:=5;write(i);i:=6;write(a)end;begin p(i)end.", "56");
        Check.writes("var i:integer;procedure q(var b:integer);begin b:=b*2 end;procedure p(var a:integer);begin q(a);q(a)"
            + " end;begin i:=3;p(i);write(i)end.", "12");
        Check.writes("var v:array[1..3]of integer;i:integer;procedure p(var a:integer);begin i:=3;a:=7 end;"
            + "begin i:=2;p(v[i]);write(i,v[2])end.", "37");
        Check.writes("var i:integer;procedure p(var a:integer);begin for a:=1 to 3 do write(i)end;begin p(i)end.", "123");
        Check.writes("type s=set;var t:s;procedure p(a:s;var b:s);begin b:=a+b end;"
            + "begin t:=[1];p([2],t);write(t=[1,2])end.", "true");
        Check.writes("procedure p(a,b,c,d,e,f,g,h:integer);begin write(a,b,c,d,e,f,g,h)end;begin p(1,2,3,4,5,6,7,8)end.",
            "12345678");
        Check.writes("procedure p(n:integer);var k:integer;begin k:=n;if n>0 then p(n-1);write(k)end;begin p(4)end.", "01234");
    }

    private static void functions() {
        Check.writes("function f(n:integer):integer;begin if n<2 then f:=1 else f:=n*f(n-1)end;begin write(f(10))end.",
            "3628800");
        Check.writes("function f(n:integer):integer;begin if n<2 then f:=n else f:=f(n-1)+f(n-2)end;begin write(f(12))end.",
            "144");
        Check.writes("function f:char;begin f:='a';f:='b' end;begin write(f,f)end.", "bb");
        Check.writes("type s=set;function f(a,b:integer):s;begin f:=[a..b]end;begin write(f(1,3)*f(2,4)=[2,3])end.", "true");
        Check.writes("var n:integer;function f:integer;begin n:=n+1;f:=n end;begin n:=0;write(f-f*f,' ',n)end.", "-5 3");
        Check.writes("var n:integer;function f(x:boolean):boolean;begin n:=n+1;f:=x end;"
            + "begin n:=0;write(f(false)and f(true),f(true)or f(false),n)end.", "falsetrue4");
        Check.writes("var v:array[1..3]of integer;n:integer;function f:integer;begin n:=n+1;f:=n end;"
            + "begin n:=0;v[f]:=f;write(v[1])end.", "2");
        Check.writes("var i,n:integer;function f:integer;begin n:=n*2;f:=n end;"
            + "begin n:=1;for i:=f to f do write(i);write(f in[f..f])end.", "234false");
        Check.writes("function f(a,b:integer):integer;begin f:=a*10+b end;begin write(f(f(1,2),f(3,4)))end.", "154");
        Check.writes("function f:integer;procedure p;begin f:=7 end;begin p end;begin write(f)end.", "7");
        Check.writes("var i:integer;function f(var a:integer):integer;begin a:=a+1;f:=a end;begin i:=1;write(i+f(i)+i)end.", "5");
        Check.writes("function f:integer;begin write('a');f:=1 end;begin write('x',f,'y')end.", "xa1y");
    }

    private static void nestedBlocks() {
        Check.writes("var a:integer;procedure p;var b:integer;procedure q;var c:integer;begin c:=3;write(a,b,c);a:=4;b:=5 end;"
            + "begin b:=2;q;write(a,b)end;begin a:=1;p;write(a)end.", "123454");
        Check.writes("procedure p(n:integer);procedure q;begin write(n);if n>0 then p(n-1)end;begin q;write(n)end;"
            + "begin p(2)end.", "210012");
        Check.writes("procedure a(i:integer);procedure b(j:integer);procedure c(k:integer);procedure d(l:integer);"
            + "procedure e(m:integer);begin write(i,j,k,l,m);if m>1 then b(0)end;begin e(l+1)end;begin d(k+1)end;"
            + "begin if j=0 then write('.')else c(j+1)end;begin b(i+1)end;begin a(1)end.", "12345.");
        Check.writes("procedure p;var x:integer;procedure q(n:integer);begin if n=0 then x:=x+1 else q(n-1)end;"
            + "begin x:=0;q(3);q(2);write(x)end;begin p;p end.", "22");
        Check.writes("procedure p(n:integer;var r:integer);var x:integer;procedure q;begin r:=r+x end;"
            + "begin x:=n;if n>0 then p(n-1,x);q end;procedure z;var y:integer;"
            + "begin y:=0;p(3,y);write(y)end;begin z end.", "6");
    }

    private static void reading() {
        Check.runs(0, "var i,j:integer;begin read(i,j);write(i+j)end.", " 12\n\t-5", "7");
        Check.runs(0, "var i:integer;c:char;begin read(i,c);write(i,c)end.", "+7x", "7x");
        Check.runs(0, "var i:integer;begin read(i);write(i);read(i);write(i)end.", "0002147483647-2147483647",
            "2147483647-2147483647");
        Check.runs(0, "var c:char;i:integer;begin while not eof do begin i:=0;while not eoln do begin read(c);i:=i+1 end;"
            + "write(i);if not eof then read(c)end end.", "ab\n\nc", "201");
        Check.runs(0, "begin write(eof,eoln)end.", "", "truetrue");
        Check.runs(0, "begin write(eof,eoln)end.", "\n", "falsetrue");
        Check.runs(0, "begin write(eof,eoln)end.", "\r", "falsefalse");
        Check.runs(0, "var v:array[1..3]of 0..5;i:integer;begin read(i,v[i],v[i+1]);write(v[2],v[3])end.", "2 4 5", "45");
        Check.runs(0, "var c:'a'..'c';begin read(c);write(c)end.", "b", "b");
        Check.runs(0, "var c:char;begin read(c,c);write(ord(c))end.", "\0\377", "255");
    }

    private static void longPrograms() {
        String calls = Check.repeated("p;", 450);
        TaggedPascal machine = Check.runs(2, "var i:integer;procedure p;begin i:=i+1 end;begin i:=0;" + calls
            + "write(i);^write(1 div 0)end.", "", "450");
        Check.due("steps of a long program", machine.told(0), 903);
        Check.writes("function f(n:integer):integer;begin if n=0 then f:=0 else f:=1+(2+(3+(4+(5*(1+(n-n+f(n-1)))))))end;"
            + "begin write(f(5))end.", String.valueOf(15 * (1 + 5 + 25 + 125 + 625)));
        Check.writes("function f(a,b,c,d,n:integer):integer;begin if n=0 then f:=a else f:=f(a+1,b,c,d,n-1)+b-c*f(0,0,0,0,0)"
            + " end;begin write(f(1,2,3,4,190))end.", String.valueOf(191 + 2 * 190));
    }

    private static void runAgain() {
        TaggedPascal machine = Check.compiled("var i:integer;begin write(1);i:=i end.");
        for (int k = 0; k < 3; k++) {
            Check.due("run again: still undefined", machine.run(20000), 1);
            Check.due("run again: written anew", Check.output(machine), "1");
        }
        TaggedPascal wide = Check.compiled("var v:array[1..500]of integer;i:integer;begin for i:=1 to 500 do v[i]:=i end.");
        Check.due("run: fills its cells", wide.run(20000), 0);
        wide.wipe();
        Check.feed(wide, "procedure p;var a:integer;begin a:=a end;begin p end.");
        Check.due("run: another program", wide.compile(), 1);
        Check.due("run: cells of runs before are undefined", wide.run(20000), 1);
    }
}
