/** Promises 4, 5 and 6: blocks, constants, types, variables, procedures and functions. */
public final class DeclarationsTest {
    public static void main(String[] args) {
        compileAnswers();
        compileAgain();
        programs();
        constants();
        ranges();
        arrays();
        namesOfTypes();
        parts();
        headings();
        whereNamesAreKnown();
        declaredTwice();
        tooMuch();
        Check.finish();
    }

    private static void compileAnswers() {
        Check.accepts(0, "begin end.");
        Check.accepts(1, "procedure p;begin end;begin end.");
        Check.accepts(4, "procedure p;procedure q;begin end;function f:integer;begin f:=1 end;begin end;"
            + "procedure r;begin end;begin end.");
        TaggedPascal machine = new TaggedPascal();
        Check.feed(machine, "procedure p;begin end;begin write(1)end.");
        Check.due("compile", machine.compile(), 1);
        Check.due("compile: again, the tape stays", machine.compile(), 1);
        Check.due("compile: run", machine.run(9), 0);
        Check.due("compile: wipe", machine.wipe(), 40);
        Check.feed(machine, "begin write(2) en.");
        Check.due("compile: a fault", machine.compile(), -1);
        Check.due("compile: its fault", machine.fault(), 1);
        Check.due("compile: its place", machine.place(), 15);
        Check.due("compile leaves what was written", Check.output(machine), "1");
        Check.due("compile: the tape stays", machine.feed(1, 'd'), 19);
        Check.due("compile: the program stays", machine.run(9), 0);
        Check.due("compile: what it writes", Check.output(machine), "1");
        Check.due("run leaves the fault", machine.fault(), 1);
        Check.due("run leaves the place", machine.place(), 15);
        machine.wipe();
        Check.feed(machine, "begin write(2) end.");
        Check.due("compile: no fault", machine.compile(), 0);
        Check.due("compile: fault is 0 again", machine.fault(), 0);
        Check.due("compile: place is NONE again", machine.place(), -1);
        Check.due("compile: run the new one", machine.run(9), 0);
        Check.due("compile: what the new one writes", Check.output(machine), "2");
    }

    /** Nothing of a tape with a fault is left for the next one. */
    private static void compileAgain() {
        TaggedPascal machine = new TaggedPascal();
        String[] faulty = {
            Check.nested(5, "var a,b,c:integer;begin ?"),
            "var a:integer;begin case 1 of 1,2,3:case 1 of 4,5,6:?",
            "var " + Check.names(100) + ":integer;procedure p(" + Check.names(5) + ":integer);begin ?",
            "procedure p;begin end;procedure q;begin end;begin while true do write(p",
        };
        String fine = "var " + Check.names(100) + ":integer;procedure p;var a0:integer;procedure q;begin a0:=7 end;"
            + "begin q;case 2 of 1,2,3,4,5,6:write(a0)end end;begin p;a0:=1;write(a0)end.";
        for (int k = 0; k < faulty.length; k++) {
            machine.wipe();
            Check.feed(machine, faulty[k]);
            Check.due("compile of a fault, " + k, machine.compile(), -1);
            machine.wipe();
            Check.feed(machine, fine);
            Check.due("compile behind a fault, " + k, machine.compile(), 2);
            Check.due("run behind a fault, " + k, machine.run(99), 0);
            Check.due("output behind a fault, " + k, Check.output(machine), "71");
        }
    }

    private static void programs() {
        Check.refuses(1, "begin end^");
        Check.refuses(1, "begin end^;");
        Check.refuses(1, "begin end. ^x");
        Check.refuses(1, "begin end.^begin end.");
        Check.refuses(1, "^.");
        Check.refuses(1, "^end.");
        Check.refuses(1, "^x");
        Check.refuses(1, "^'ab'");
        Check.refuses(1, "begin ^");
        Check.refuses(1, "begin ^.");
        Check.accepts("begin;;;end.");
    }

    private static void constants() {
        Check.writes("const a=1;b=+2;c=-a;d=+b;e=true;f=e;g='x';h=g;begin write(a,b,c,d,e,f,g,h)end.",
            "12-12truetruexx");
        Check.refuses(1, "const ^begin end.");
        Check.refuses(1, "const a^:1;begin end.");
        Check.refuses(1, "const a=^;begin end.");
        Check.refuses(1, "const a=1^begin end.");
        Check.refuses(1, "const a=1;^1=2;begin end.");
        Check.refuses(2, "const a=^b;begin end.");
        Check.refuses(2, "const a=^a;begin end.");
        Check.refuses(2, "const a=-^b;begin end.");
        Check.refuses(1, "const a=^integer;begin end.");
        Check.refuses(1, "const a=^ord;begin end.");
        Check.refuses(1, "const a=-^integer;begin end.");
        Check.refuses(4, "const a=-true^;begin end.");
        Check.refuses(4, "const a='x';b=+a^;begin end.");
        Check.refuses(1, "const a=-^'x';begin end.");
        Check.refuses(1, "const a=-^-1;begin end.");
        Check.refuses(1, "const a=-^;begin end.");
        Check.refuses(1, "const a=^(1);begin end.");
        Check.refuses(4, "const a=-true^);begin end.");
        Check.refuses(1, "const a=-true^?;begin end.");
    }

    private static void ranges() {
        Check.accepts("const a=3;b='c';type r=1..a;s=-a..+a;t='a'..b;u=a..a;begin end.");
        Check.refuses(4, "type r=2..1^;begin end.");
        Check.refuses(4, "type r=1..'a'^;begin end.");
        Check.refuses(4, "type r='a'..1^;begin end.");
        Check.refuses(4, "type r='b'..'a'^;begin end.");
        Check.refuses(4, "type r=false..true^;begin end.");
        Check.refuses(4, "type r=-true^..1;begin end.");
        Check.refuses(4, "type r=2..1^begin end.");
        Check.refuses(4, "type r=true..2^;begin end.");
        Check.refuses(1, "type r=1^;begin end.");
        Check.refuses(1, "type r=1..^;begin end.");
        Check.refuses(1, "type r=1..^integer;begin end.");
        Check.refuses(2, "type r=1..^x;begin end.");
        Check.refuses(2, "type r=^x..1;begin end.");
        Check.refuses(1, "type r=^ord..1;begin end.");
        Check.refuses(1, "type r=1..^'ab';begin end.");
        Check.accepts("type r=-2147483647..2147483647;begin end.");
    }

    private static void arrays() {
        Check.accepts("type k=1..3;a=array[k]of integer;b=array[1..2]of k;c=array['a'..'z']of set;d=a;"
            + "var x:a;y:array[0..0]of 1..2;begin x[1]:=2;y[0]:=1 end.");
        Check.accepts("type a=array[1..500]of integer;begin end.");
        Check.accepts("type a=array[-499..0]of integer;begin end.");
        Check.refuses(5, "type a=array[0..500^]of integer;begin end.");
        Check.refuses(5, "type a=array[-2147483647..2147483647^]of integer;begin end.");
        Check.refuses(5, "type r=1..501;a=array[r^]of integer;begin end.");
        Check.refuses(1, "type a=array[0..500^)of integer;begin end.");
        Check.refuses(1, "type a=array[0..500^of integer;begin end.");
        Check.refuses(4, "type a=array[3..1^)of integer;begin end.");
        Check.refuses(4, "type a=array[500..0^]of integer;begin end.");
        Check.refuses(1, "type a=array[^integer]of integer;begin end.");
        Check.refuses(1, "type a=array[^char]of integer;begin end.");
        Check.refuses(1, "type a=array[^boolean]of integer;begin end.");
        Check.refuses(1, "type s=set;a=array[^s]of integer;begin end.");
        Check.refuses(1, "type s=array[1..2]of char;a=array[^s]of integer;begin end.");
        Check.refuses(1, "type a=array[^set]of integer;begin end.");
        Check.refuses(1, "type a=array[^array];begin end.");
        Check.refuses(1, "type a=array[^]of integer;begin end.");
        Check.refuses(1, "type a=array^(1..2)of integer;begin end.");
        Check.refuses(2, "type a=array[^x]of integer;begin end.");
        Check.refuses(2, "type a=array[1..^x]of integer;begin end.");
        Check.refuses(1, "type a=array[1..2^,3..4]of integer;begin end.");
        Check.refuses(1, "type a=array[1..2]^integer;begin end.");
        Check.refuses(1, "type a=array[1..2]of ^array[1..2]of char;begin end.");
        Check.refuses(1, "type a=array[1..2]of char;b=array[1..2]of ^a;begin end.");
        Check.refuses(1, "type a=array[1..2]of ^;begin end.");
        Check.refuses(2, "type a=array[1..2]of ^x;begin end.");
    }

    private static void namesOfTypes() {
        Check.accepts("type a=integer;b=a;c=b;d=set;e=d;var x:c;y:e;begin x:=1;y:=[1]end.");
        Check.refuses(1, "type a=^;begin end.");
        Check.refuses(2, "type a=^b;b=integer;begin end.");
        Check.refuses(2, "type a=^a;begin end.");
        Check.refuses(1, "var a:integer;b:^a;begin end.");
        Check.refuses(1, "var a:^chr;begin end.");
        Check.refuses(1, "type a=set ^of integer;begin end.");
        Check.refuses(1, "type a=^'ab';begin end.");
    }

    private static void parts() {
        Check.accepts(1, "const a=1;type b=1..a;var c:b;procedure d;begin end;begin end.");
        Check.refuses(1, "const ^type a=integer;begin end.");
        Check.refuses(1, "type ^var a:integer;begin end.");
        Check.refuses(1, "var ^begin end.");
        Check.refuses(1, "type a=integer;^const b=1;begin end.");
        Check.refuses(1, "var a:integer;^type b=integer;begin end.");
        Check.refuses(1, "procedure p;begin end;^var b:integer;begin end.");
        Check.refuses(1, "const a=1;^const b=1;begin end.");
        Check.refuses(1, "var a,^:integer;begin end.");
        Check.refuses(1, "var a^=integer;begin end.");
        Check.refuses(1, "var a ^b:integer;begin end.");
        Check.refuses(1, "var a:integer^,b:char;begin end.");
        Check.refuses(1, "var a:integer;^;begin end.");
    }

    private static void headings() {
        Check.accepts(1, "procedure p(a:integer;var b,c:char;d:boolean);begin end;begin end.");
        Check.accepts(1, "type s=set;function f(a:s):s;begin f:=a end;begin end.");
        Check.refuses(1, "procedure ^;begin end;begin end.");
        Check.refuses(1, "procedure p ^begin end;begin end.");
        Check.refuses(1, "procedure p;begin end ^begin end.");
        Check.refuses(1, "procedure p;begin end^.");
        Check.refuses(1, "procedure p^:integer;begin end;begin end.");
        Check.refuses(1, "procedure p(^);begin end;begin end.");
        Check.refuses(1, "procedure p(a^);begin end;begin end.");
        Check.refuses(1, "procedure p(a:integer;^);begin end;begin end.");
        Check.refuses(1, "procedure p(a:integer;^begin end;begin end.");
        Check.refuses(1, "procedure p(var ^var a:integer);begin end;begin end.");
        Check.refuses(1, "procedure p(a:^set);begin end;begin end.");
        Check.refuses(1, "procedure p(a:^1..2);begin end;begin end.");
        Check.refuses(1, "procedure p(a:^array[1..2]of integer);begin end;begin end.");
        Check.refuses(1, "type r=array[1..2]of char;procedure p(a:^r);begin end;begin end.");
        Check.refuses(1, "type r=array[1..2]of char;procedure p(var a:^r);begin end;begin end.");
        Check.refuses(1, "type r=array[1..2]of char;function f:^r;begin end;begin end.");
        Check.refuses(2, "procedure p(a:^x);begin end;begin end.");
        Check.refuses(1, "procedure p(a:^true);begin end;begin end.");
        Check.refuses(1, "function f^;begin end;begin end.");
        Check.refuses(1, "function f:^set;begin end;begin end.");
        Check.refuses(1, "function f:^;begin end;begin end.");
        Check.refuses(2, "function f:^x;begin end;begin end.");
        Check.refuses(1, "function f:^ord;begin end;begin end.");
        Check.refuses(1, "function f:integer ^begin end;begin end.");
    }

    private static void whereNamesAreKnown() {
        Check.refuses(2, "procedure p;begin ^q end;procedure q;begin end;begin end.");
        Check.refuses(2, "procedure p;var a:integer;begin end;begin ^a:=1 end.");
        Check.refuses(2, "procedure p(a:integer);begin end;begin ^a:=1 end.");
        Check.refuses(2, "procedure p;procedure q;begin end;begin end;begin ^q end.");
        Check.refuses(2, "var a:array[1..^b]of integer;b:integer;begin end.");
        Check.refuses(2, "var a:^a;begin end.");
        Check.accepts(1, "const a=1;procedure p;const a=a;b=a;begin write(a)end;begin end.");
        Check.accepts(1, "type a=1..2;procedure p;type a=a;var b:a;begin b:=1 end;begin end.");
        Check.accepts(1, "type a=1..2;procedure p;var a:a;begin a:=1 end;begin end.");
        Check.accepts(1, "procedure p(p:integer);begin p:=1 end;begin p(1)end.");
        Check.accepts(1, "procedure p(integer:integer);begin integer:=1 end;begin p(1)end.");
        Check.refuses(1, "procedure p(integer:integer;a:^integer);begin end;begin end.");
        Check.refuses(1, "function f(integer:integer):^integer;begin end;begin end.");
        Check.refuses(1, "var integer:integer;a:^integer;begin end.");
        Check.writes("var a:integer;procedure p;var a:integer;begin a:=2;write(a)end;begin a:=1;p;write(a)end.", "21");
        Check.writes("const a=1;procedure p;const a=2;procedure q;const a=3;begin write(a)end;begin q;write(a)end;"
            + "begin p;write(a)end.", "321");
        Check.writes("procedure p(a:integer);begin if a>0 then begin write(a);p(a-1)end end;begin p(3)end.", "321");
        Check.writes("const true=false;begin write(true)end.", "false");
    }

    private static void declaredTwice() {
        Check.refuses(3, "const a=1;^a=2;begin end.");
        Check.refuses(3, "const a=1;type ^a=integer;begin end.");
        Check.refuses(3, "type a=integer;var ^a:integer;begin end.");
        Check.refuses(3, "var a,^a:integer;begin end.");
        Check.refuses(3, "var a:integer;procedure ^a;begin end;begin end.");
        Check.refuses(3, "procedure a;begin end;function ^a:integer;begin end;begin end.");
        Check.refuses(3, "procedure p(a,^a:integer);begin end;begin end.");
        Check.refuses(3, "procedure p(a:integer;var ^a:integer);begin end;begin end.");
        Check.refuses(3, "procedure p(a:integer);const ^a=1;begin end;begin end.");
        Check.refuses(3, "procedure p(a:integer);procedure ^a;begin end;begin end;begin end.");
        Check.accepts(1, "var a:integer;procedure p(a:integer);begin end;begin end.");
        Check.accepts(2, "procedure p;var a:integer;begin end;procedure q;var a:integer;begin end;begin end.");
        Check.accepts("var integer:integer;true:boolean;begin end.");
    }

    private static void tooMuch() {
        Check.accepts("var " + Check.names(120) + ":integer;begin end.");
        Check.refuses(5, "var " + Check.names(120) + ",^z:integer;begin end.");
        Check.refuses(3, "var " + Check.names(120) + ",^a0:integer;begin end.");
        Check.refuses(5, "var " + Check.names(120) + ":integer;procedure ^p;begin end;begin end.");
        Check.refuses(5, "var " + Check.names(119) + ":integer;procedure p(^a:integer);begin end;begin end.");
        Check.accepts(2, "var " + Check.names(115) + ":integer;procedure p(a,b,c:integer);var d:integer;begin end;"
            + "procedure q;var a,b,c:char;begin end;begin end.");
        Check.refuses(5, "var " + Check.names(115) + ":integer;procedure p(a,b,c:integer);var d:integer;begin end;"
            + "procedure q;var a,b,c,^d:char;begin end;begin end.");
        Check.accepts(1, "procedure p(a,b,c,d:integer;e,f,g,h:char);begin end;begin end.");
        Check.refuses(5, "procedure p(a,b,c,d,e,f,g,h,^i:integer);begin end;begin end.");
        Check.refuses(5, "procedure p(a,b,c,d:integer;e,f,g:char;h:char;var ^i:integer);begin end;begin end.");
        Check.refuses(3, "procedure p(a,b,c,d,e,f,g,h,^a:integer);begin end;begin end.");
        Check.refuses(1, "procedure p(a,b,c,d,e,f,g,h,^1:integer);begin end;begin end.");
        Check.accepts(5, Check.nested(5, "") + "begin end.");
        Check.refuses(5, Check.nested(5, "^procedure g;begin end;") + "begin end.");
        Check.refuses(5, Check.nested(5, "^function ") + "begin end.");
    }
}
