/** The rows of the grammar in "Terms": each sentence that names an edge, at it and one beyond it. */
public final class GrammarEdgesTest {
    public static void main(String[] args) {
        pointThenBlanks();
        partsOfBlocks();
        eightParameters();
        signsOfConstants();
        constantsOfOneByte();
        setAlone();
        integerOrChar();
        notEmpty();
        fiveHundredElements();
        rangeOrNameOfOne();
        elementsThatAreNoArrays();
        setsOfNumbers();
        choicesOfNothing();
        elementsOfArraysAlone();
        functionsNameBeforeBecomes();
        argumentsForVar();
        noArraysAsParameters();
        sameRangeForVar();
        stringsOfMoreBytes();
        kindsOfOperators();
        setsEqualOrNot();
        whatMayBeThere();
        whatIsPut();
        nameOfFor();
        endsBehindTheSecond();
        knownFromBehindOn();
        knownToTheEndOfTheBlock();
        namesHideOthers();
        knownInItsOwnBlock();
        Check.finish();
    }

    /** "PROGRAM: a BLOCK, a point, blanks." */
    private static void pointThenBlanks() {
        Check.accepts("begin end.");
        Check.accepts("begin end . \n{}");
        Check.refuses(1, "begin end^");
        Check.refuses(1, "begin end ^;.");
        Check.refuses(1, "begin end.^;");
        Check.refuses(1, "begin end.^ .");
        Check.refuses(1, "begin end.^ begin end.");
        Check.refuses(1, "begin end.^1");
        Check.refuses(1, "begin end.^a");
        Check.refuses(1, "begin end.^ 'ab'");
        Check.refuses(1, "^.begin end.");
    }

    /** Each part may be left out, none may be empty, come twice or out of turn; then any number of procedures. */
    private static void partsOfBlocks() {
        String[] parts = {"const a=1;", "type b=1..2;", "var c:integer;", "procedure d;begin end;"};
        for (int k = 0; k < 16; k++) {
            StringBuilder source = new StringBuilder();
            for (int i = 0; i < parts.length; i++) {
                source.append((k >> i & 1) != 0 ? parts[i] : "");
            }
            Check.accepts(k >> 3, source + "begin end.");
        }
        for (int i = 0; i < parts.length; i++) {
            for (int k = 0; k < i || k == i && k < 3; k++) {
                Check.refuses(1, parts[i] + "^" + parts[k] + "begin end.");
            }
        }
        Check.refuses(1, "const ^begin end.");
        Check.refuses(1, "const ^type b=1..2;begin end.");
        Check.refuses(1, "type ^begin end.");
        Check.refuses(1, "var ^procedure d;begin end;begin end.");
        StringBuilder many = new StringBuilder();
        for (int i = 0; i < 60; i++) {
            many.append("procedure p").append(i).append(";begin end;");
        }
        Check.accepts(60, many + "begin end.");
        Check.accepts(2, "function f:integer;begin end;procedure p;begin end;begin end.");
        Check.accepts(1, "procedure p;const a=1;type b=1..2;var c:integer;begin end;begin end.");
        Check.refuses(1, "procedure p;var c:integer;^type b=1..2;begin end;begin end.");
    }

    /** "8 parameters at most". */
    private static void eightParameters() {
        Check.accepts(1, "procedure p(a,b,c,d,e,f,g,h:integer);begin end;begin end.");
        Check.accepts(1, "function q(a:char;var b:char;c:char;d:char;e:char;f:char;g:char;var h:char):char;"
            + "begin end;begin end.");
        Check.refuses(5, "procedure p(a,b,c,d,e,f,g,h,^i:integer);begin end;begin end.");
        Check.refuses(5, "procedure p(a,b,c,d,e,f,g,h:integer;^i:integer);begin end;begin end.");
        Check.refuses(5, "procedure p(a,b,c,d,e,f,g,h:integer;var ^i:integer);begin end;begin end.");
        Check.refuses(5, "procedure p(a,b,c,d,e,f,g:integer;h,^i:integer);begin end;begin end.");
        Check.refuses(5, "function p(a:char;b:char;c:char;d:char;e:char;f:char;g:char;h:char;^i:char):char;begin end;begin end.");
        Check.refuses(1, "procedure p(a,b,c,d,e,f,g,h^;");
        Check.accepts(2, "procedure p(a,b,c,d,e,f,g,h:integer);procedure q(a,b,c,d,e,f,g,h:integer);begin end;"
            + "begin end;begin end.");
        Check.writes("procedure p(a,b,c,d,e,f,g,h:integer);begin write(a,b,c,d,e,f,g,h)end;begin p(8,7,6,5,4,3,2,1)end.",
            "87654321");
    }

    /** "with a sign only if integer: else that does not fit, behind it". */
    private static void signsOfConstants() {
        String head = "const i=7;c='x';b=true;";
        Check.writes(head + "j=+i;k=-i;l=-k;begin write(j,k,l,c,b)end.", "7-77xtrue");
        String[] signs = {"+", "-"};
        for (String sign : signs) {
            Check.refuses(4, head + "d=" + sign + "c^;begin end.");
            Check.refuses(4, head + "d=" + sign + "b^;begin end.");
            Check.refuses(4, head + "d=" + sign + "true^;begin end.");
            Check.refuses(4, head + "d=" + sign + "false^ begin end.");
            Check.refuses(4, head + "d=" + sign + "c^");
            Check.refuses(4, head + "type r=" + sign + "c^..'z';begin end.");
            Check.refuses(4, head + "type r=" + sign + "b^..1;begin end.");
            Check.refuses(4, head + "type r=1.." + sign + "c^;begin end.");
            Check.refuses(4, head + "var v:array[" + sign + "c^..'z']of char;begin end.");
            Check.refuses(4, head + "begin case 'x' of " + sign + "c^:end end.");
            Check.refuses(4, head + "begin case true of false," + sign + "b^:end end.");
            Check.accepts(head + "type r=-7.." + sign + "i;begin case 7 of " + sign + "i:end end.");
            Check.refuses(1, head + "d=" + sign + "^integer;begin end.");
            Check.refuses(2, head + "d=" + sign + "^x;begin end.");
            Check.refuses(1, head + "d=" + sign + "^" + sign + "1;begin end.");
        }
    }

    /** "or, without a sign, a string of one byte (char)". */
    private static void constantsOfOneByte() {
        Check.writes("const a='b';begin write(a,ord(a))end.", "b98");
        Check.refuses(1, "const a=-^'b';begin end.");
        Check.refuses(1, "const a=+^'b';begin end.");
        Check.refuses(1, "const a=^'bc';begin end.");
        Check.refuses(1, "const a=-^'bc';begin end.");
        Check.refuses(1, "type r=^'ab'..'c';begin end.");
        Check.refuses(1, "type r='a'..^'cd';begin end.");
        Check.refuses(1, "type r='a'..-^'c';begin end.");
        Check.refuses(1, "begin case 'a' of ^'ab':end end.");
        Check.refuses(1, "begin case 'a' of -^'a':end end.");
    }

    /** "the word set alone". */
    private static void setAlone() {
        Check.accepts("type s=set;var a:set;b:s;c:array[1..2]of set;begin a:=[];b:=a;c[1]:=b end.");
        Check.refuses(1, "type s=set ^of integer;begin end.");
        Check.refuses(1, "var a:set ^0..63;begin end.");
        Check.refuses(1, "procedure p(a:^set);begin end;begin end.");
        Check.refuses(1, "function f:^set;begin end;begin end.");
        Check.refuses(1, "var a:array[^set]of char;begin end.");
    }

    /** "a RANGE of integer or char". */
    private static void integerOrChar() {
        Check.accepts("const t=true;c='x';type a=0..1;b='a'..c;d=-1..+1;begin end.");
        Check.refuses(4, "type a=false..true^;begin end.");
        Check.refuses(4, "type a=false..false^;begin end.");
        Check.refuses(4, "type a=0..true^;begin end.");
        Check.refuses(4, "type a=false..1^;begin end.");
        Check.refuses(4, "type a='a'..98^;begin end.");
        Check.refuses(4, "type a=97..'b'^;begin end.");
        Check.refuses(4, "type a='a'..true^;begin end.");
        Check.refuses(1, "type a=1..^set;begin end.");
    }

    /** "not empty". */
    private static void notEmpty() {
        Check.accepts("type a=0..0;b=1..2;c='q'..'q';d='a'..'b';e=-1..-1;f=-2..-1;g=-1..0;begin end.");
        Check.accepts("type a=2147483647..2147483647;b=-2147483647..2147483647;c=' '..'~';begin end.");
        Check.refuses(4, "type a=1..0^;begin end.");
        Check.refuses(4, "type a=0..-1^;begin end.");
        Check.refuses(4, "type a=-1..-2^;begin end.");
        Check.refuses(4, "type a='b'..'a'^;begin end.");
        Check.refuses(4, "type a=2147483647..-2147483647^;begin end.");
        Check.refuses(4, "var a:array[1..0^]of char;begin end.");
        Check.refuses(4, "var a:array[1..2]of 1..0^;begin end.");
        Check.refuses(4, "var a:1..0^;begin end.");
    }

    /** "500 elements at most". */
    private static void fiveHundredElements() {
        Check.accepts("type r=1..500;s=1..501;a=array[r]of char;b=array[0..499]of char;c=array[-249..250]of set;begin end.");
        Check.refuses(5, "type a=array[1..501^]of char;begin end.");
        Check.refuses(5, "type a=array[0..500^]of char;begin end.");
        Check.refuses(5, "type a=array[-250..250^]of char;begin end.");
        Check.refuses(5, "type s=1..501;a=array[s^]of char;begin end.");
        Check.refuses(5, "var a:array[-2147483647..2147483647^]of char;begin end.");
        Check.refuses(5, "var a:array[-2147483647..-2147483147^]of char;begin end.");
        Check.accepts("var a:array[-2147483647..-2147483148]of char;begin end.");
        Check.accepts("var a:array[2147483148..2147483647]of char;begin end.");
        Check.refuses(5, "var a:array[2147483147..2147483647^]of char;begin end.");
        Check.refuses(5, "var a:array[0..2147483647^]of char;begin end.");
        Check.accepts("var a:array[' '..'~']of char;begin end.");
        Check.writes("var a:array[1..500]of integer;begin a[1]:=7;a[500]:=8;write(a[1],a[500])end.", "78");
        Check.runs(3, "var a:array[1..500]of integer;begin a[500]:=1;^a[501]:=1 end.");
        Check.runs(3, "var a:array[1..500]of integer;begin a[1]:=1;^a[0]:=1 end.");
    }

    /** "with a range or a name of one between", "no range in an array's [ ] ... is of the wrong sort". */
    private static void rangeOrNameOfOne() {
        Check.accepts("const n=3;type r=1..n;c='a'..'c';var a:array[r]of char;b:array[c]of r;d:array[n..9]of char;begin end.");
        Check.refuses(1, "var a:array[^integer]of char;begin end.");
        Check.refuses(1, "var a:array[^char]of char;begin end.");
        Check.refuses(1, "var a:array[^boolean]of char;begin end.");
        Check.refuses(1, "type s=set;var a:array[^s]of char;begin end.");
        Check.refuses(1, "type i=integer;var a:array[^i]of char;begin end.");
        Check.refuses(1, "type v=array[1..2]of char;var a:array[^v]of char;begin end.");
        Check.refuses(1, "var b:integer;a:array[^b]of char;begin end.");
        Check.refuses(1, "var a:array[^ord]of char;begin end.");
        Check.refuses(2, "var a:array[^x]of char;begin end.");
        Check.refuses(1, "const n=3;var a:array[n^]of char;begin end.");
        Check.refuses(1, "var a:array[3^]of char;begin end.");
        Check.refuses(1, "type r=1..3;var a:array[r^..4]of char;begin end.");
        Check.refuses(1, "var a:array^ of char;begin end.");
        Check.refuses(1, "var a:array[^]of char;begin end.");
        Check.refuses(1, "var a:array[1..2]^char;begin end.");
        Check.refuses(1, "var a:array[1..2^ of char;begin end.");
    }

    /** "of, a TYPE that is no array": "an array, is of the wrong sort". */
    private static void elementsThatAreNoArrays() {
        Check.accepts("type s=set;r=1..3;var a:array[1..2]of s;b:array[1..2]of r;c:array[1..2]of 'a'..'b';begin end.");
        Check.refuses(1, "var a:array[1..2]of ^array[1..2]of char;begin end.");
        Check.refuses(1, "type v=array[1..2]of char;var a:array[1..2]of ^v;begin end.");
        Check.refuses(1, "type v=array[1..2]of char;w=v;var a:array[1..2]of ^w;begin end.");
        Check.accepts("type v=array[1..2]of char;w=v;var a:v;b:w;begin a[1]:='x';b[1]:=a[1]end.");
    }

    /** "its values are sets of numbers 0 .. 63". */
    private static void setsOfNumbers() {
        Check.does("s:=[0,63];write(0 in s,63 in s,1 in s,62 in s);s:=[0..63];write(0 in s,63 in s)",
            "truetruefalsefalsetruetrue");
        Check.does("s:=[];for i:=0 to 63 do s:=s+[i];write(s=[0..63]);for i:=0 to 63 do write(ord(s*[i]=[i]))",
            "true" + Check.repeated("1", 64));
        Check.does("s:=[0..63];write(64 in s,-1 in s,32 in s,31 in s)", "falsefalsetruetrue");
        Check.runs(3, "var s:set;begin s:=[63];^s:=[64]end.");
        Check.runs(3, "var s:set;begin s:=[0];^s:=[-1]end.");
    }

    /** "a choice: CONSTANTS with commas between : S; or, but for the first one, nothing". */
    private static void choicesOfNothing() {
        Check.writes("begin case 2 of 1:write(1);2:write(2)end end.", "2");
        Check.writes("begin case 2 of 1:write(1);;2:write(2)end end.", "2");
        Check.writes("begin case 2 of 1:write(1);;;;2:write(2);;;end end.", "2");
        Check.writes("begin case 1 of 1:write(1);end;write(3)end.", "13");
        Check.writes("begin case 1 of 1:;2:;end end.", "");
        Check.refuses(1, "begin case 1 of ^end end.");
        Check.refuses(1, "begin case 1 of ^;1:end end.");
        Check.refuses(1, "begin case 1 of ^:end end.");
        Check.refuses(1, "begin case 1 of 1,^:end end.");
        Check.refuses(1, "begin case 1 of 1:;^,2:end end.");
        Check.refuses(1, "begin case 1 of 1:;^:end end.");
        Check.refuses(1, "begin case 1 of 1^ 2:end end.");
        Check.refuses(1, "begin case 1 of 1^ end end.");
        Check.refuses(1, "begin case 1 of 1:;2^ end end.");
        Check.refuses(1, "begin case 1 of 1:;^begin end end end.");
        Check.refuses(4, "begin case 1 of 1:;;1^:end end.");
        Check.runs(4, "begin ^case 3 of 1:;;2:;end end.");
    }

    /** "of an array with the words [ and ], an E between, behind it". */
    private static void elementsOfArraysAlone() {
        String head = "var v:array[1..2]of integer;i:integer;begin ";
        Check.accepts(head + "v[1]:=2;i:=v[v[1]];read(v[i])end.");
        Check.refuses(1, head + "v^:=2 end.");
        Check.refuses(1, head + "i:=v^ end.");
        Check.refuses(1, head + "i:=v^+1 end.");
        Check.refuses(1, head + "read(v^)end.");
        Check.refuses(1, head + "i^[1]:=2 end.");
        Check.refuses(1, head + "v[1]^[1]:=2 end.");
        Check.refuses(1, head + "v[1^,2]:=2 end.");
        Check.refuses(1, head + "v[^]:=2 end.");
        Check.refuses(1, head + "v[1^..2]:=2 end.");
        Check.refuses(1, head + "i:=i^[1]end.");
    }

    /** "within a function's block (and those in it) its name, before :=". */
    private static void functionsNameBeforeBecomes() {
        Check.writes("function f:integer;begin f:=3 end;begin write(f)end.", "3");
        Check.writes("function f:integer;procedure p;procedure q;begin f:=4 end;begin q end;begin p end;begin write(f)end.", "4");
        Check.writes("function f:integer;function g:integer;begin g:=1;f:=5 end;begin f:=9+g*0 end;begin write(f)end.", "9");
        Check.refuses(1, "function f:integer;begin f:=1 end;begin ^f:=1 end.");
        Check.refuses(1, "function f:integer;begin f:=1 end;procedure p;begin ^f:=1 end;begin end.");
        Check.refuses(1, "function f:integer;function g:integer;begin end;begin ^g:=1 end;begin end.");
        Check.refuses(1, "function f:integer;begin f^ end;begin end.");
        Check.refuses(1, "function f:integer;begin f^;f:=1 end;begin end.");
        Check.refuses(1, "function f(a:integer):integer;begin f^(1):=1 end;begin end.");
        Check.refuses(1, "function f:integer;begin read(^f)end;begin end.");
        Check.refuses(1, "function f:integer;begin for ^f:=1 to 2 do end;begin end.");
        Check.refuses(1, "function f:integer;procedure p(var a:integer);begin end;begin p(^f)end;begin end.");
        Check.refuses(1, "function f:integer;begin ^ord:=1 end;begin end.");
    }

    /** "ARGUMENT: an expression; for var a variable." */
    private static void argumentsForVar() {
        String head = "const n=1;var i:integer;v:array[1..2]of integer;procedure p(var a:integer);begin end;"
            + "procedure q(a:integer);begin end;procedure r;begin end;function f:integer;begin f:=1 end;begin ";
        Check.accepts(4, head + "p(i);p(v[i]);p(v[f]);q(i);q(1);q(v[1]+f*(2));r end.");
        Check.refuses(1, head + "p(^1)end.");
        Check.refuses(1, head + "p(^n)end.");
        Check.refuses(1, head + "p(^(i))end.");
        Check.refuses(1, head + "p(^-i)end.");
        Check.refuses(1, head + "p(^f)end.");
        Check.refuses(1, head + "p(^integer)end.");
        Check.refuses(1, head + "p(^)end.");
        Check.refuses(1, head + "p(v^)end.");
        Check.refuses(1, head + "p(i^+1)end.");
        Check.refuses(1, head + "p^;end.");
        Check.refuses(1, head + "p(i^,i)end.");
        Check.refuses(1, head + "q(^)end.");
        Check.refuses(1, head + "r^(1)end.");
        Check.refuses(1, head + "i:=f^()end.");
        Check.refuses(2, head + "p(^x)end.");
    }

    /** "Parameters and functions are no arrays." */
    private static void noArraysAsParameters() {
        String head = "type v=array[1..2]of char;w=v;r=1..2;s=set;";
        Check.accepts(2, head + "procedure p(a:r;var b:s;c:char);begin end;function f:s;begin end;begin end.");
        Check.refuses(1, head + "procedure p(a:^v);begin end;begin end.");
        Check.refuses(1, head + "procedure p(a:char;var b:^v);begin end;begin end.");
        Check.refuses(1, head + "procedure p(a:^w);begin end;begin end.");
        Check.refuses(1, head + "function f:^v;begin end;begin end.");
        Check.refuses(1, head + "function f(a:r):^w;begin end;begin end.");
        Check.refuses(1, head + "procedure p(a:^array[1..2]of char);begin end;begin end.");
        Check.refuses(1, head + "procedure p(a:^1..2);begin end;begin end.");
        Check.refuses(1, head + "function f:^1..2;begin end;begin end.");
        Check.refuses(1, "const n=1;procedure p(a:^n);begin end;begin end.");
    }

    /** "for var the range is the same, too (or none for both)". */
    private static void sameRangeForVar() {
        String head = "type k=1..5;l=1..5;m=1..6;n=0..5;b='a'..'c';d='a'..'d';"
            + "var i:integer;x:k;y:l;z:m;u:n;c:char;e:b;g:d;t:boolean;s:set;v:array[1..5]of k;w:array[1..5]of integer;"
            + "procedure pi(var a:integer);begin end;procedure pk(var a:k);begin end;procedure pb(var a:b);begin end;"
            + "procedure pc(var a:char);begin end;procedure pt(var a:boolean);begin end;begin ";
        Check.accepts(5, head + "pi(i);pi(w[1]);pk(x);pk(y);pk(v[1]);pb(e);pc(c);pt(t)end.");
        String[] wrong = {"pi(x^)", "pi(v[1]^)", "pi(c^)", "pi(t^)", "pi(s^)", "pk(i^)", "pk(z^)", "pk(u^)", "pk(w[1]^)",
            "pk(e^)", "pb(c^)", "pb(g^)", "pb(x^)", "pc(e^)", "pc(i^)", "pt(i^)", "pt(x^)"};
        for (String call : wrong) {
            Check.refuses(4, head + call + "end.");
        }
        Check.accepts(1, "type k=1..5;var i:integer;procedure p(a:k);begin end;begin p(i);p(7)end.");
        Check.accepts(1, "type s=set;var t:set;procedure p(var a:s);begin end;begin p(t)end.");
        Check.accepts(2, "type k=1..5;procedure q(var a:k);begin end;procedure p(var a:k;b:k);begin q(a);q(b)end;begin end.");
        Check.refuses(4, "type k=97..99;b='a'..'c';var x:k;procedure p(var a:b);begin end;begin p(x^)end.");
    }

    /** "ITEM: a string of more bytes, or an expression." */
    private static void stringsOfMoreBytes() {
        Check.writes("begin write('ab');write('a');write(1,'bc','d');writeln('ef','gh')end.", "aba1bcdefgh\n");
        Check.refuses(1, "begin write('ab'^+'c')end.");
        Check.refuses(1, "begin write('ab'^='ab')end.");
        Check.refuses(1, "begin write('a'+^'ab')end.");
        Check.refuses(1, "begin write((^'ab'))end.");
        Check.refuses(1, "begin write(-^'ab')end.");
        Check.refuses(1, "begin write(not ^'ab')end.");
        Check.refuses(1, "begin write(1 in[^'ab'])end.");
        Check.refuses(1, "begin write(ord(^'ab'))end.");
        Check.refuses(1, "var c:char;begin c:=^'ab' end.");
        Check.refuses(1, "begin if ^'ab' then end.");
        Check.refuses(1, "procedure p(a:char);begin end;begin p(^'ab')end.");
        Check.refuses(1, "begin ^'ab' end.");
        Check.refuses(1, "begin read(^'ab')end.");
        Check.refuses(1, "begin case ^'ab' of 'a':end end.");
    }

    private static final String[] VALUES = {"1", "'a'", "true", "[1]"};

    /** Each operator with each two kinds: what fits is told by a row of kinds for it. */
    private static void kindsOfOperators() {
        operator("+", "i..s");
        operator("-", "i..s");
        operator("*", "i..s");
        operator("div", "i...");
        operator("mod", "i...");
        operator("and", "..b.");
        operator("or", "..b.");
        operator("=", "icbs");
        operator("<>", "icbs");
        operator("<", "icb.");
        operator("<=", "icb.");
        operator(">", "icb.");
        operator(">=", "icb.");
        for (int left = 0; left < 4; left++) {
            for (int right = 0; right < 4; right++) {
                fits(VALUES[left] + " in " + VALUES[right], left == 0 && right == 3);
            }
            fits("not " + VALUES[left], left == 2);
            fits("-" + VALUES[left], left == 0);
            fits("+" + VALUES[left], left == 0);
            fits("not(" + VALUES[left] + "=" + VALUES[left] + ")", true);
        }
        function("ord", "icb.");
        function("succ", "icb.");
        function("pred", "icb.");
        function("chr", "i...");
        function("odd", "i...");
        function("abs", "i...");
        function("sqr", "i...");
    }

    private static void operator(String sign, String kinds) {
        for (int left = 0; left < 4; left++) {
            for (int right = 0; right < 4; right++) {
                fits(VALUES[left] + " " + sign + " " + VALUES[right], left == right && kinds.charAt(left) != '.');
            }
        }
    }

    private static void fits(String expression, boolean fine) {
        if (fine) {
            Check.accepts("begin if(" + expression + ")=(" + expression + ")then end.");
        } else {
            Check.refuses(4, "begin if(" + expression + "^)=1 then end.");
            Check.refuses(4, "begin write(" + expression + "^;");
        }
    }

    private static void function(String name, String kinds) {
        for (int k = 0; k < 4; k++) {
            if (kinds.charAt(k) != '.') {
                Check.accepts("begin write(" + name + "(" + VALUES[k] + "))end.");
            } else {
                Check.refuses(4, "begin write(" + name + "(" + VALUES[k] + "^))end.");
            }
        }
    }

    /** "of sets = and <> alone", and what functions, operators and sets give. */
    private static void setsEqualOrNot() {
        Check.does("s:=[1];t:=[2];write(s=t,s<>t,s=s,s<>s,s+t=[1,2])", "falsetruetruefalsetrue");
        String[] others = {"<", "<=", ">", ">="};
        for (String sign : others) {
            Check.refuses(4, "var s:set;begin if s" + sign + "s^ then end.");
            Check.refuses(4, "begin if[]" + sign + "[]^ then end.");
        }
        String head = "var i:integer;c:char;b:boolean;s:set;begin ";
        Check.accepts(head + "i:=ord(c);i:=ord(b);i:=ord(i);i:=succ(i);c:=succ(c);b:=succ(b);c:=chr(i);b:=odd(i)end.");
        Check.accepts(head + "i:=abs(i);i:=sqr(i);b:=eof;b:=eoln;b:=i in s;b:=s=s;s:=s+s-s*s;i:=-i+i div i mod i end.");
        Check.refuses(4, head + "c:=ord(c)^ end.");
        Check.refuses(4, head + "i:=succ(c)^ end.");
        Check.refuses(4, head + "i:=pred(b)^ end.");
        Check.refuses(4, head + "i:=chr(i)^ end.");
        Check.refuses(4, head + "i:=odd(i)^ end.");
        Check.refuses(4, head + "b:=abs(i)^ end.");
        Check.refuses(4, head + "i:=eof^ end.");
        Check.refuses(4, head + "i:=eoln^ end.");
        Check.refuses(4, head + "s:=i in s^ end.");
        Check.refuses(4, head + "s:=s=s^ end.");
        Check.refuses(4, head + "b:=s+s^ end.");
    }

    /** "Conditions are booleans, elements of sets ... a case has no set; what is read is integer or char, written no set." */
    private static void whatMayBeThere() {
        String head = "var i:integer;c:char;b:boolean;s:set;v:array[1..2]of boolean;w:array['a'..'b']of set;r:1..2;begin ";
        Check.accepts(head + "if b then;while b do;repeat until b;s:=[i,i..i,r];b:=v[i];s:=w[c]end.");
        Check.accepts(head + "case i of 1:end;case c of 'a':end;case b of true:end;read(i,c,r);write(i,c,b,r)end.");
        String[] wrong = {"if i^ then", "if c^ then", "if s^ then", "while i^ do", "while s^ do", "repeat until i^",
            "repeat until c^", "s:=[c^]", "s:=[b^]", "s:=[s^]", "s:=[c^..i]", "s:=[i..c^]", "s:=[i,b^]", "b:=v[c^]",
            "b:=v[b^]", "b:=v[s^]", "s:=w[i^]", "s:=w[b^]", "v[c^]:=b", "w[1^]:=s", "case s^ of 1:end", "case []^ of 1:end",
            "read(b^)", "read(s^)", "read(v[1]^)", "read(w[c]^)", "read(i,b^)", "write(s^)", "write([]^)", "write(i,s^)",
            "writeln(s^)", "write(w[c]^)"};
        for (String statement : wrong) {
            Check.refuses(4, head + statement + " end.");
        }
    }

    /** "What is put somewhere (:=, arguments, ends of for, constants of a case) has its kind". */
    private static void whatIsPut() {
        String[] names = {"i", "c", "b", "s"};
        String head = "type z=set;var i:integer;c:char;b:boolean;s:set;procedure pi(a:integer);begin end;"
            + "procedure pc(a:char);begin end;procedure pb(a:boolean);begin end;procedure ps(a:z);begin end;"
            + "begin ";
        for (int left = 0; left < 4; left++) {
            for (int right = 0; right < 4; right++) {
                put(head, names[left] + ":=" + names[right], left == right);
                put(head, "p" + names[left] + "(" + names[right], left == right);
                if (left < 3) {
                    put(head, "for " + names[left] + ":=" + VALUES[right], left == right);
                    put(head, "for " + names[left] + ":=" + VALUES[left] + " to " + VALUES[right], left == right);
                    put(head, "for " + names[left] + ":=" + VALUES[left] + " downto " + VALUES[right], left == right);
                }
                if (left < 3 && right < 3) {
                    put(head, "case " + names[left] + " of " + VALUES[right], left == right);
                }
            }
        }
        Check.refuses(4, "function f:char;begin f:=1^ end;begin end.");
        Check.refuses(4, "function f:boolean;begin f:='a'^ end;begin end.");
        Check.accepts("type r=1..5;var x:r;i:integer;begin x:=i;i:=x;for x:=i to 9 do;case x of 7:end end.");
    }

    /** Where it fits, the fault is only that the string can't come there. */
    private static void put(String head, String start, boolean fine) {
        Check.refuses(fine ? 1 : 4, head + start + (fine ? "^'xy'" : "^ "));
    }

    /** "The NAME of a for is a variable (or parameter) that is no array, nor a set (else of the wrong sort)." */
    private static void nameOfFor() {
        String head = "const n=1;type t=1..2;var i:integer;c:char;b:boolean;r:t;s:set;v:array[1..2]of integer;"
            + "procedure p(x:integer;var y:t);begin for x:=1 to 2 do;for y:=1 to 2 do ";
        Check.accepts(1, head + "end;begin for i:=1 to 2 do;for c:='a' to 'b' do;for b:=true downto b do;for r:=1 to 2 do end.");
        String[] wrong = {"s", "v", "n", "t", "p", "true", "ord", "eof", "integer"};
        for (String name : wrong) {
            Check.refuses(1, head + "end;begin for ^" + name + ":=1 to 2 do end.");
        }
        Check.refuses(2, head + "end;begin for ^q:=1 to 2 do end.");
        Check.refuses(1, head + "end;begin for ^v[1]:=1 to 2 do end.");
        Check.refuses(1, head + "end;begin for ^1:=1 to 2 do end.");
        Check.refuses(1, head + "end;begin for i^[1]:=1 to 2 do end.");
    }

    /** "The ends of a range are looked at, both, behind the second one." */
    private static void endsBehindTheSecond() {
        Check.refuses(4, "type a=true..1^;begin end.");
        Check.refuses(4, "type a=true..false^ begin end.");
        Check.refuses(4, "type a=2..1^ begin end.");
        Check.refuses(4, "type a=2..1^");
        Check.refuses(2, "type a=true..^x;begin end.");
        Check.refuses(1, "type a=true..^;begin end.");
        Check.refuses(1, "type a=true^;begin end.");
        Check.refuses(1, "type a=true..^integer;begin end.");
        Check.refuses(1, "type a=true..^'ab';begin end.");
        Check.refuses(1, "type a=2..1^?;begin end.");
        Check.refuses(5, "type a=2..1^ 2147483648;begin end.");
        Check.refuses(4, "var a:array[true..1^]of char;begin end.");
        Check.refuses(4, "var a:array[9..1^)of char;begin end.");
        Check.refuses(4, "var a:array[1..2]of true..1^;begin end.");
    }

    /** "A name is known from behind its declaration on". */
    private static void knownFromBehindOn() {
        Check.refuses(2, "const a=^a;begin end.");
        Check.refuses(2, "const a=^b;b=1;begin end.");
        Check.refuses(2, "type a=1..^a;begin end.");
        Check.refuses(2, "type a=^a;begin end.");
        Check.refuses(2, "type a=^b;b=integer;begin end.");
        Check.refuses(2, "type a=array[1..2]of ^a;begin end.");
        Check.refuses(2, "var a:^a;begin end.");
        Check.refuses(2, "var a,b:^b;begin end.");
        Check.refuses(2, "procedure p;begin ^q end;procedure q;begin end;begin end.");
        Check.refuses(2, "procedure p;begin ^a:=1 end;procedure q;var a:integer;begin end;begin end.");
        Check.accepts(2, "const a=1;b=a;type c=a..b;d=c;var e:d;f:array[c]of d;procedure g(h:d);begin e:=h end;"
            + "procedure i;begin g(e)end;begin i end.");
        Check.writes("const a=1;procedure p;const b=a;a=2;c=a;begin write(b,a,c)end;begin p end.", "122");
        Check.writes("const a=1;procedure p;const a=a;begin write(a)end;begin p end.", "1");
        Check.writes("type a=1..2;procedure p;type a=array[a]of char;var v:a;begin v[2]:='x';write(v[2])end;begin p end.", "x");
        Check.writes("type a=1..2;procedure p;var b:a;a:a;begin a:=1;b:=2;write(a,b)end;begin p end.", "12");
    }

    /** "on to the end of its block". */
    private static void knownToTheEndOfTheBlock() {
        String inner = "procedure p(a:integer);const b=1;type c=1..2;var d:char;procedure e;begin end;"
            + "function f:integer;begin f:=1 end;begin a:=b;d:='x';e;a:=f end;";
        Check.accepts(3, inner + "begin p(1)end.");
        String[] gone = {"a", "d", "e", "f", "b", "c"};
        for (String name : gone) {
            Check.refuses(2, inner + "begin ^" + name + ":=1 end.");
            Check.refuses(2, inner + "procedure q;begin ^" + name + " end;begin end.");
        }
        Check.refuses(2, inner + "begin write(^b)end.");
        Check.refuses(2, inner + "procedure q(x:^c);begin end;begin end.");
        Check.refuses(2, "procedure p;procedure q(a:integer);begin end;begin ^a:=1 end;begin end.");
        Check.refuses(2, "function f(a:integer):integer;begin f:=a end;begin write(^a)end.");
    }

    /** "and hides others". */
    private static void namesHideOthers() {
        Check.writes("var a:integer;procedure p;var a:char;begin a:='x';write(a)end;begin a:=1;p;write(a)end.", "x1");
        Check.writes("var a:integer;procedure q;begin write(a)end;procedure p;var a:integer;begin a:=2;q end;begin a:=1;p end.", "1");
        Check.writes("const a=1;procedure p(a:char);begin write(a)end;begin p('y');write(a)end.", "y1");
        Check.writes("procedure a;begin write('o')end;procedure p;procedure a;begin write('i')end;begin a end;begin p;a end.", "io");
        Check.refuses(1, "type a=1..2;procedure p;var a:integer;b:^a;begin end;begin end.");
        Check.refuses(1, "type a=1..2;procedure p(a:integer;b:^a);begin end;begin end.");
        Check.refuses(4, "var a:integer;procedure p;var a:char;begin a:=1^ end;begin end.");
        Check.refuses(1, "procedure q;begin end;procedure p;var q:char;begin q^ end;begin end.");
        Check.writes("const true=false;integer=5;begin write(true,integer)end.", "false5");
        Check.refuses(1, "var char:integer;c:^char;begin end.");
        Check.writes("function ord(x:integer):integer;begin ord:=x+1 end;begin write(ord(1))end.", "2");
        Check.writes("var eof:integer;begin eof:=3;write(eof)end.", "3");
        Check.refuses(1, "var abs:integer;begin abs:=1;write(abs^(1))end.");
        Check.writes("function f:integer;var g:integer;function h:integer;var f:integer;begin f:=1;h:=f+1 end;"
            + "begin g:=h;f:=g*10 end;begin write(f)end.", "20");
    }

    /** "those of a procedure or function already in its own block, whose first names are its parameters". */
    private static void knownInItsOwnBlock() {
        Check.writes("procedure p(n:integer);begin write(n);if n>0 then p(n-1)end;begin p(2)end.", "210");
        Check.writes("function f(n:integer):integer;begin if n=0 then f:=1 else f:=2*f(n-1)end;begin write(f(5))end.", "32");
        Check.accepts(2, "procedure p;procedure q;begin p;q end;begin q end;begin p end.");
        Check.accepts(1, "procedure p;var p:integer;begin p:=1 end;begin p end.");
        Check.accepts(1, "procedure p(p:integer);begin p:=1 end;begin p(1)end.");
        Check.refuses(1, "procedure p(p:integer);begin p^(1)end;begin end.");
        Check.refuses(3, "procedure p(a:integer);var ^a:char;begin end;begin end.");
        Check.refuses(3, "procedure p(a:integer);type ^a=char;begin end;begin end.");
        Check.refuses(3, "procedure p(a:integer);const ^a=1;begin end;begin end.");
        Check.refuses(3, "procedure p(a:integer);function ^a:char;begin end;begin end;begin end.");
        Check.refuses(3, "procedure p(a:integer;b,^a:char);begin end;begin end.");
        Check.refuses(3, "procedure p;begin end;procedure ^p;begin end;begin end.");
        Check.refuses(3, "var p:char;function ^p:char;begin end;begin end.");
    }
}
