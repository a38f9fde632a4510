/** Promises 4, 5 and 6: statements and expressions, their kinds and their depth. */
public final class StatementsTest {
    /** Everything that the statements below may use. */
    private static final String HEAD = "const one=1;type k=1..9;l=set;var i,j:integer;a,b:boolean;c,d:char;s,t:set;r:k;"
        + "v:array[k]of integer;w:array['a'..'c']of char;procedure p;begin end;procedure q(x:k;var y:k;z:l);begin end;"
        + "procedure u(var x:integer);begin end;"
        + "function f:integer;begin f:=1 end;function g(x:integer;var y:char):char;begin g:='x' end;begin ";

    public static void main(String[] args) {
        assignments();
        calls();
        choices();
        loops();
        cases();
        transfers();
        factors();
        operators();
        standardFunctions();
        depths();
        Check.finish();
    }

    private static void fine(String statements) {
        Check.accepts(5, HEAD + statements + " end.");
    }

    private static void bad(int fault, String statements) {
        Check.refuses(fault, HEAD + statements + " end.");
    }

    private static void assignments() {
        fine("i:=1;a:=true;c:='x';s:=[];r:=1;v[1]:=2;w['a']:='b';v[r+1]:=v[v[1]];r:=i;i:=r");
        bad(2, "^x:=1");
        bad(1, "^integer:=1");
        bad(1, "^one:=1");
        bad(1, "^true:=true");
        bad(1, "^eof:=true");
        bad(1, "^k:=1");
        bad(1, "i^=1");
        bad(1, "i^");
        bad(1, "i^[1]:=1");
        bad(1, "v^:=1");
        bad(1, "v[1^:=1");
        bad(1, "v[^]:=1");
        bad(4, "v['a'^]:=1");
        bad(4, "w[1^]:='a'");
        bad(4, "v[true^:=1");
        bad(4, "i:=true^");
        bad(4, "i:='x'^");
        bad(4, "i:=[1]^");
        bad(4, "c:=1^");
        bad(4, "a:=1^");
        bad(4, "s:=1^");
        bad(4, "v[1]:='a'^");
        bad(4, "i:=true^ then");
        bad(1, "i:=1 ^then");
        bad(1, "i:=^");
        bad(1, "i:=1 ^j:=1");
        bad(1, "^1");
        bad(1, "^'ab'");
        bad(1, "^,");
        bad(1, "^f:=1");
        bad(1, "^f");
        Check.accepts(2, "function f:integer;procedure p;begin f:=1 end;begin p;f:=f+1 end;begin end.");
        Check.refuses(1, "function f:integer;begin f^ end;begin end.");
        Check.refuses(1, "function f(x:integer):integer;begin f^(1):=1 end;begin end.");
        Check.refuses(1, "function f:integer;begin read(^f) end;begin end.");
        Check.refuses(1, "function f:integer;begin for ^f:=1 to 2 do end;begin end.");
        Check.refuses(4, "function f:integer;begin f:=true^ end;begin end.");
        Check.refuses(1, "function f:integer;begin end;procedure p;begin ^f:=1 end;begin end.");
        Check.refuses(1, "function f:integer;function g:integer;begin g:=1 end;begin f:=g;^g:=1 end;begin end.");
    }

    private static void calls() {
        fine("p;q(1,r,[]);q(i,r,s);u(i);u(v[2]);c:=g(1,c);c:=g(f,w['a']);i:=f");
        bad(1, "p^(1)");
        bad(1, "p^:=1");
        bad(1, "q^");
        bad(1, "q(^)");
        bad(1, "q(1^)");
        bad(1, "q(1,r,[]^,1)");
        bad(1, "q(1,^2,[])");
        bad(1, "q(1,^one,[])");
        bad(1, "q(1,^(r),[])");
        bad(2, "q(1,^x,[])");
        bad(1, "q(1,r^+1,[])");
        bad(4, "q(true^,r,[])");
        bad(4, "q(1,i^,[])");
        bad(4, "q(1,v[1]^,[])");
        bad(4, "u(r^)");
        bad(4, "u(c^)");
        bad(4, "q(1,r,1^)");
        bad(1, "u(^f)");
        bad(1, "u(v^)");
        bad(4, "q(true^;");
        bad(1, "c:=g^");
        bad(1, "i:=^p");
        bad(1, "i:=f^(1)");
        bad(1, "c:=g(1^)");
        bad(4, "c:=g(1,i^)");
        Check.accepts(1, "var a:1..5;procedure p(var x:integer);begin end;begin end.");
        Check.accepts(1, "type k=1..5;l=1..5;var a:l;procedure p(var x:k);begin x:=1 end;begin p(a)end.");
        Check.refuses(4, "type k=1..5;l=1..6;var a:l;procedure p(var x:k);begin end;begin p(a^)end.");
        Check.refuses(4, "type k=1..5;l=0..5;var a:l;procedure p(var x:k);begin end;begin p(a^)end.");
        Check.refuses(4, "type k='a'..'c';var a:char;procedure p(var x:k);begin end;begin p(a^)end.");
        Check.refuses(4, "type k='a'..'c';var a:97..99;procedure p(var x:k);begin end;begin p(a^)end.");
    }

    private static void choices() {
        fine("if a then i:=1;if a then else;if a then if b then i:=1 else i:=2 else i:=3");
        bad(4, "if i^ then i:=1");
        bad(4, "if 'x'^ i:=1");
        bad(1, "if a ^i:=1");
        bad(1, "if ^then i:=1");
        bad(1, "if a then i:=1;^else i:=2");
        bad(1, "if a then i:=1 else i:=2 ^else i:=3");
        bad(1, "^then");
        Check.refuses(1, "begin begin begin end end^.");
    }

    private static void loops() {
        fine("while a do;while a do i:=1;repeat until a;repeat i:=1;i:=2;until b");
        bad(4, "while i^ do");
        bad(1, "while a ^i:=1");
        bad(1, "while ^do");
        bad(4, "repeat until i^");
        bad(1, "repeat i:=1 ^end");
        bad(1, "repeat i:=1 until ^");
        bad(1, "^until a");
        fine("for i:=1 to 2 do;for c:='a' to 'b' do;for a:=false to true do;for r:=9 downto 1 do i:=r");
        bad(1, "for ^s:=1 to 2 do");
        bad(1, "for ^v:=1 to 2 do");
        bad(1, "for ^one:=1 to 2 do");
        bad(1, "for ^p:=1 to 2 do");
        bad(1, "for ^1:=1 to 2 do");
        bad(2, "for ^x:=1 to 2 do");
        bad(1, "for i^=1 to 2 do");
        bad(1, "for i^[1]:=1 to 2 do");
        bad(4, "for i:='a'^ to 2 do");
        bad(4, "for i:=1 to 'a'^ do");
        bad(4, "for c:=1^ to 'a' do");
        bad(4, "for i:=[]^ to 2 do");
        bad(1, "for i:=1 ^do");
        bad(1, "for i:=1 to 2^;");
        bad(1, "for i:=1 to ^do");
        Check.accepts(1, "procedure p(i:integer;var j:integer);begin for i:=1 to 2 do;for j:=1 to 2 do end;begin end.");
    }

    private static void cases() {
        fine("case i of 1:end;case i of 1,2:i:=1;-3:end");
        fine("case i of 1:;2:i:=1;;;3,4,5:begin end;end");
        fine("case c of 'a':i:=1;'b':end;case a of true:;false:end;case i of +one:;-one:end");
        bad(4, "case s^ of 1:end");
        bad(4, "case [1]^ 1:end");
        bad(1, "case i ^1:end");
        bad(1, "case i of ^end");
        bad(1, "case i of ^;1:end");
        bad(1, "case i of 1^end");
        bad(1, "case i of 1^;");
        bad(1, "case i of 1:^,");
        bad(1, "case i of 1,^:end");
        bad(1, "case i of 1:;^else end");
        bad(1, "case i of 1:i:=1 ^2:end");
        bad(4, "case i of 'a'^:end");
        bad(4, "case i of true^:end");
        bad(4, "case c of 1^:end");
        bad(4, "case i of 1,1^:end");
        bad(4, "case i of 1:;2,one^:end");
        bad(4, "case i of 0:;-0^:end");
        bad(4, "case i of -true^:end");
        bad(4, "case c of 'a','b','a'^ end");
        bad(2, "case i of ^x:end");
        bad(1, "case i of ^i:end");
        bad(1, "case i of ^'ab':end");
        bad(1, "case i of -^'a':end");
        bad(1, "case i of 1:^1:end");
        fine("case i of 1:case j of 1:;2:end;2:case j of 1:end end");
        bad(4, "case i of 1:case j of 1:;2:end;1^:end");
    }

    private static void transfers() {
        fine("read(i);read(c,r,v[1],w['b']);write(1);write(i,c,a,'x','xyz',1=2);writeln;writeln(i,'ab')");
        bad(1, "read^");
        bad(1, "read(^)");
        bad(1, "read(^1)");
        bad(1, "read(^one)");
        bad(1, "read(^'a')");
        bad(2, "read(^x)");
        bad(4, "read(a^)");
        bad(4, "read(s^)");
        bad(1, "read(v^)");
        bad(1, "read(i^");
        bad(1, "read(i^+1)");
        bad(1, "write^");
        bad(1, "write(^)");
        bad(1, "writeln(^)");
        bad(1, "write(1^");
        bad(1, "write(1,^)");
        bad(1, "write('ab'^+1)");
        bad(1, "write(1+^'ab')");
        bad(1, "write((^'ab'))");
        bad(1, "c:=^'ab'");
        bad(4, "write(s^)");
        bad(4, "write([]^)");
        bad(1, "writeln ^1");
        bad(4, "write('a'+1^)");
    }

    private static void factors() {
        fine("i:=1;i:=one;i:=i;i:=v[1];i:=f;i:=(1);a:=not a;a:=not not a;s:=[];s:=[1];s:=[1,2..3,i..j]");
        bad(1, "i:=^)");
        bad(1, "i:=(^)");
        bad(1, "i:=(1^;");
        bad(1, "i:=^integer");
        bad(1, "i:=^p");
        bad(2, "i:=^x");
        bad(1, "i:=v^");
        bad(1, "i:=^begin");
        bad(4, "a:=not 1^");
        bad(4, "a:=not 'a'^)");
        bad(1, "a:=not ^");
        bad(4, "s:=['a'^]");
        bad(4, "s:=['a'^..1]");
        bad(4, "s:=[1..'a'^]");
        bad(4, "s:=[true^,");
        bad(1, "s:=[1^");
        bad(1, "s:=[1,^]");
        bad(1, "s:=[1..^]");
        bad(1, "s:=[1..2^..3]");
        bad(1, "s:=[^,1]");
    }

    private static void operators() {
        fine("i:=1+2-3*4 div 5 mod 6;i:=-1;i:=+i*2;s:=s+t-[1]*s;a:=a and b or not a;a:=(1=2)=(2=1)");
        fine("a:=1=2;a:=c<d;a:=a<=b;a:=s=t;a:=s<>[];a:=i in s;a:=f+1 in s+t;a:=-1 in s;a:=one>=r");
        bad(4, "i:=1+true^");
        bad(4, "i:=1+'a'^");
        bad(4, "i:=true+1^");
        bad(4, "i:='a'+'b'^");
        bad(4, "i:=true+true^");
        bad(4, "i:=true-true^");
        bad(4, "i:='a'*'b'^");
        bad(4, "s:=s+1^");
        bad(4, "s:=1+s^");
        bad(4, "s:=s div s^");
        bad(4, "s:=s mod t^");
        bad(4, "i:=1 div 'a'^");
        bad(4, "a:=1 and 2^");
        bad(4, "a:=1 or 2^");
        bad(4, "a:=s and t^");
        bad(4, "a:=a or 2^");
        bad(4, "a:=s or t^");
        bad(4, "i:=-true^");
        bad(4, "s:=-s^");
        bad(4, "i:=+'a'^");
        bad(4, "i:=-'a'^+1");
        bad(4, "i:=1*true^*2");
        bad(4, "i:=1+true*2^");
        bad(4, "a:=1='a'^");
        bad(4, "a:=1=true^");
        bad(4, "a:=s<t^");
        bad(4, "a:=s<=t^");
        bad(4, "a:=s>t^");
        bad(4, "a:=s>=t^");
        bad(4, "a:=s=1^");
        bad(4, "a:='a' in s^");
        bad(4, "a:=1 in 2^");
        bad(4, "a:=s in s^");
        bad(1, "a:=1=2^=3");
        bad(1, "a:=1 in s^=a");
        bad(1, "i:=1+^+2");
        bad(1, "i:=1*^-2");
        bad(1, "i:=1=^");
        bad(1, "i:=-^-1");
        fine("a:=1=-1;a:=i*(-1)=+2");
    }

    private static void standardFunctions() {
        fine("i:=ord('a');i:=ord(a);i:=ord(1);c:=chr(65);c:=succ('a');i:=succ(1);a:=pred(true);a:=odd(3);i:=abs(-1)");
        fine("i:=sqr(2);a:=eof;a:=eoln;a:=not eof and eoln");
        bad(4, "i:=ord(s^)");
        bad(4, "i:=succ(s^)");
        bad(4, "i:=pred([]^)");
        bad(4, "c:=chr('a'^)");
        bad(4, "a:=odd(true^)");
        bad(4, "i:=abs('a'^)");
        bad(4, "i:=sqr(s^)");
        bad(4, "i:=ord(s^;");
        bad(4, "i:=chr(1)^");
        bad(4, "c:=ord('a')^");
        bad(4, "i:=odd(1)^");
        bad(4, "i:=succ('a')^");
        bad(1, "i:=ord^");
        bad(1, "i:=ord(^)");
        bad(1, "i:=ord(1^,2)");
        bad(1, "a:=eof^(1)");
        bad(1, "a:=eoln^(1)");
        bad(1, "i:=abs^");
    }

    private static void depths() {
        Check.accepts("begin " + nest("begin ", 19) + "end" + nest(" end", 19) + ".");
        Check.refuses(5, "begin " + nest("begin ", 20) + "^end" + nest(" end", 20) + ".");
        Check.refuses(5, "begin " + nest("begin ", 20) + "^)");
        Check.refuses(5, "begin " + nest("begin ", 20) + "^x:=1");
        Check.refuses(1, "begin " + nest("begin ", 20) + "^?");
        Check.accepts("begin " + nest("if true then ", 19) + "end.");
        Check.refuses(5, "begin " + nest("if true then ", 19) + "if ^true then end.");
        Check.accepts("begin " + nest("begin ", 19) + "writeln('ab')" + nest(" end", 20) + ".");
        Check.refuses(5, "begin " + nest("begin ", 19) + "writeln(^'a')");
        Check.refuses(5, "begin " + nest("begin ", 19) + "writeln(^)");
        Check.accepts("begin " + nest("begin ", 18) + "write('a')" + nest(" end", 19) + ".");
        Check.accepts("begin write(" + nest("(", 18) + "1" + nest(")", 18) + ")end.");
        Check.refuses(5, "begin write(" + nest("(", 19) + "^1" + nest(")", 19) + ")end.");
        Check.refuses(5, "begin write(" + nest("(", 19) + "^x" + nest(")", 19) + ")end.");
        Check.accepts("begin write(" + nest("not ", 18) + "true)end.");
        Check.refuses(5, "begin write(" + nest("not ", 19) + "^true)end.");
        Check.refuses(5, "begin write(" + nest("not ", 19) + "^;)end.");
        Check.refuses(5, "begin write(" + nest("not(", 9) + "not ^(true");
        Check.accepts("begin write(" + nest("abs(", 18) + "1" + nest(")", 18) + ")end.");
        Check.refuses(5, "begin write(" + nest("abs(", 19) + "^1" + nest(")", 19) + ")end.");
        Check.refuses(5, "var v:array[1..2]of integer;begin write(" + nest("v[", 19) + "^1");
        Check.accepts("begin write(1 in " + nest("[ord(1 in ", 8) + "[1..2,3]" + nest(")]", 8) + ")end.");
        Check.accepts("begin write(" + nest("(", 18) + "1 in []" + nest(")", 18) + ")end.");
        Check.refuses(5, "begin write(" + nest("(", 18) + "1 in [^1");
        Check.accepts("begin write(" + nest("(", 17) + "1 in [1,2..3]" + nest(")", 17) + ")end.");
        Check.refuses(5, "begin write(" + nest("(", 17) + "1 in [1..(^2)])");
        Check.accepts("var i:integer;begin " + nest("begin ", 18) + "i:=1" + nest(" end", 19) + ".");
        Check.accepts(1, "procedure p(x:integer);begin end;begin " + nest("begin ", 18) + "p(1)" + nest(" end", 19) + ".");
        Check.accepts("begin " + nest("begin ", 18) + "if true then else" + nest(" end", 19) + ".");
        Check.accepts("var i:integer;begin " + nest("begin ", 18) + "for i:=1 to 2 do" + nest(" end", 19) + ".");
        Check.accepts("begin " + nest("begin ", 18) + "case 1 of 1:end" + nest(" end", 19) + ".");
        Check.refuses(5, "begin " + nest("repeat ", 20) + "^until true");
        Check.refuses(5, "begin " + nest("while true do ", 19) + "while ^true do");
        Check.refuses(5, "begin " + nest("if true then else ", 19) + "if ^true then");
        Check.refuses(5, "begin " + nest("case 1 of 1:", 19) + "case ^1 of");
        Check.accepts("begin " + nest("case 1 of 1:", 19) + ";;;" + nest("end ", 19) + "end.");
        Check.refuses(5, "var i:integer;begin " + nest("for i:=1 to 2 do ", 19) + "for i:=^1 to");
        Check.refuses(5, "var i:integer;begin " + nest("begin ", 19) + "i:=^1");
        Check.accepts("var i:integer;begin " + nest("begin ", 19) + "read(i)" + nest(" end", 20) + ".");
        Check.refuses(5, "var v:array[1..2]of integer;begin " + nest("begin ", 19) + "read(v[^1])");
        Check.accepts(1, "var i:integer;procedure p(var x:integer);begin end;begin " + nest("begin ", 19) + "p(i)"
            + nest(" end", 20) + ".");
        Check.refuses(5, "procedure p(x:integer);begin end;begin " + nest("begin ", 19) + "p(^1)");
        Check.accepts(1, "procedure p;begin " + nest("begin ", 19) + nest("end ", 20) + ";begin "
            + nest("begin ", 19) + nest("end ", 19) + "end.");
    }

    private static String nest(String piece, int times) {
        return Check.repeated(piece, times);
    }
}
