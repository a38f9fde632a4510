/** "THE FIRST FAULT", to the end of its row: what each word is asked, in which order, what is too much, and the place. */
public final class FaultEdgesTest {
    public static void main(String[] args) {
        wordsInTurn();
        noWordComesFirst();
        doesNotFitComesNext();
        asSoonAsItIsThere();
        cannotComeBeforeNotKnown();
        notKnown();
        wrongSort();
        declaredInThisVeryBlock();
        threeBeforeFive();
        name121();
        namesThatAreNotCounted();
        ninthParameter();
        seventhBlock();
        behindTheRangeOfAnArray();
        deepStatements();
        deepExpressionsInStatements();
        deepExpressionsInExpressions();
        deepFactorsBehindNot();
        eachBlockBeginsAnew();
        whatIsNoDeeper();
        fiveBeforeOne();
        places();
        Check.finish();
    }

    /** "Words are looked at in turn, each as soon as the one before it is taken." */
    private static void wordsInTurn() {
        Check.refuses(2, "begin ^x ? end.");
        Check.refuses(1, "begin ^? x end.");
        Check.refuses(2, "const a=^b;b=2147483648;begin end.");
        Check.refuses(4, "begin if 1^ then abcdefghijklm");
        Check.refuses(3, "var a,^a,abcdefghijklm:integer;begin end.");
        Check.refuses(1, "begin ^) { end.");
        Check.refuses(5, "begin end.^ 2147483648 ?");
        Check.refuses(1, "begin end.^ ? 2147483648");
    }

    private static final String[] MISFITS = {
        "begin if 1 ", "begin while 'a' ", "begin repeat until [] ", "begin case [] ", "begin case 1 of 'a' ",
        "begin case 1 of 1:;1 ", "const a=-true ", "type a=2..1 ", "type a=true..1 ", "var a:array[2..1 ",
        "var a:integer;begin a:=true ", "var a:integer;begin for a:='a' ", "var a:integer;begin for a:=1 to 'a' ",
        "var a:integer;begin for a:=1 downto [] ", "var a:boolean;begin read(a ", "begin write([] ", "begin write(not 1 ",
        "begin write(-true ", "begin write(1+true ", "begin write(1*'a' ", "begin write(1=true ", "begin write([]<[] ",
        "begin write(1 in 1 ", "begin write(1 in['a' ", "begin write(1 in[1..'a' ", "begin write(abs('a' ",
        "begin write(ord([] ", "var a:array[1..2]of char;begin a['a' ", "var a:array[1..2]of char;begin write(a[true ",
        "procedure p(a:char);begin end;begin p(1 ", "procedure p(a,b:char);begin end;begin p('a',1 ",
        "var a:integer;procedure p(var b:char);begin end;begin p(a ",
        "function f(a:char):char;begin end;begin write(f(1 ", "function f:char;begin f:=1 ",
    };

    /** "of each word, first, if it is none: 1 (also a { or ' that does not end), a number too great, a name too long: 5". */
    private static void noWordComesFirst() {
        String[] none = {"?", "{ end.", "'a;", "''", "'", "!", "A", "}", "'a\n'", "_", "\177", "\377", "#", "$", "%", "&",
            "/", "@", "\\", "`", "|", "~", "\""};
        for (String misfit : MISFITS) {
            for (String word : none) {
                Check.refuses(1, misfit + "^" + word);
            }
            Check.refuses(5, misfit + "^2147483648");
            Check.refuses(5, misfit + "^abcdefghijklm");
        }
        Check.refuses(5, "begin end ^2147483648.");
        Check.refuses(5, "const ^abcdefghijklm");
        Check.refuses(5, "const ^2147483648=1;");
        Check.refuses(5, "^2147483648");
    }

    /** "then, if what ends before it does not fit ...: 4". */
    private static void doesNotFitComesNext() {
        String[] words = {"x", "abcdefghijkl", "1", "'a'", "'ab'", "begin", "end", "procedure", "then", "do", "of", ")", "]",
            ";", ",", ":", ":=", "..", ".", "(", "[", "not", "read", "integer", ""};
        for (String misfit : MISFITS) {
            for (String word : words) {
                Check.refuses(4, misfit + "^" + word);
            }
        }
    }

    /** "each operator, condition and so on as soon as all that belongs to it is there". */
    private static void asSoonAsItIsThere() {
        Check.refuses(4, "begin write(1+true^+2)end.");
        Check.refuses(4, "begin write(1*true^*2)end.");
        Check.refuses(4, "begin write(1+true*2^)end.");
        Check.refuses(4, "begin write(1+2*true^)end.");
        Check.refuses(4, "begin write(true+1^+1)end.");
        Check.refuses(4, "begin write(1=true+1^)end.");
        Check.refuses(4, "begin write(1=2+true^)end.");
        Check.refuses(4, "begin write(1<true^)end.");
        Check.refuses(4, "begin write('a' in 1+1^)end.");
        Check.refuses(4, "begin write(-true^+1)end.");
        Check.refuses(4, "begin write(-'a'*1^)end.");
        Check.refuses(4, "begin write(not 1^ and true)end.");
        Check.refuses(4, "begin write(not 1^=2)end.");
        Check.refuses(4, "begin write(not not 1^)end.");
        Check.refuses(4, "begin write((1+true^)+?");
        Check.refuses(4, "begin write(not(1)^)end.");
        Check.refuses(4, "begin write(1+(true)^)end.");
        Check.refuses(4, "begin write(1 and 2^ and 3)end.");
        Check.refuses(4, "begin write(1 or 2 and 3^)end.");
        Check.refuses(4, "begin if 1+1^ then end.");
        Check.refuses(4, "begin if(1)^ then end.");
        Check.refuses(4, "begin write(ord(1 in 1^))end.");
        Check.refuses(1, "begin write(1+^)end.");
        Check.refuses(1, "begin write(true+^)end.");
        Check.refuses(2, "begin write(true+^x)end.");
        Check.refuses(2, "begin write('a' in ^x)end.");
        Check.refuses(2, "begin write([]<^x)end.");
        Check.refuses(1, "begin write(true*^;");
        Check.refuses(1, "begin write([] div^ end");
        Check.refuses(4, "var i:integer;begin i:=true^;x:=1 end.");
        Check.refuses(4, "begin case 1 of 1,2,1^,?");
        Check.refuses(4, "begin case 1 of 'a'^,1:end end.");
        Check.refuses(4, "procedure p(a,b:char);begin end;begin p(1^,2)end.");
        Check.refuses(4, "procedure p(a,b:char);begin end;begin p('a',2^)end.");
        Check.refuses(4, "procedure p(a,b:char);begin end;begin p(1^)end.");
        Check.refuses(1, "procedure p(a,b:char);begin end;begin p('a'^)end.");
    }

    /** "then if it can't come there ...: 1; a name that is not known: 2". */
    private static void cannotComeBeforeNotKnown() {
        Check.refuses(1, "^x");
        Check.refuses(1, "begin end^ x.");
        Check.refuses(1, "begin end.^ x");
        Check.refuses(1, "begin if true^ x then end.");
        Check.refuses(1, "begin while true^ x do end.");
        Check.refuses(1, "begin write(1)^ x end.");
        Check.refuses(1, "begin write^ x end.");
        Check.refuses(1, "begin writeln^ x end.");
        Check.refuses(1, "begin write(1^ x)end.");
        Check.refuses(1, "begin repeat until true^ x end.");
        Check.refuses(1, "begin case 1^ x of 1:end end.");
        Check.refuses(1, "begin case 1 of 1^ x:end end.");
        Check.refuses(1, "const a^ x=1;begin end.");
        Check.refuses(1, "const a=1^ x;begin end.");
        Check.refuses(1, "const a=1;^1=1;begin end.");
        Check.refuses(1, "type a=1^ x..2;begin end.");
        Check.refuses(1, "type a=set^ x;begin end.");
        Check.refuses(1, "type a=array^ x[1..2]of char;begin end.");
        Check.refuses(1, "type a=array[1..2]^ x;begin end.");
        Check.refuses(1, "var a^ x:integer;begin end.");
        Check.refuses(1, "var a:integer^ x;begin end.");
        Check.refuses(1, "procedure p^ x;begin end;begin end.");
        Check.refuses(1, "procedure p(a^ x:char);begin end;begin end.");
        Check.refuses(1, "procedure p(a:char^ x);begin end;begin end.");
        Check.refuses(1, "procedure p;begin end;^x begin end.");
        Check.refuses(1, "function f^ x:char;begin end;begin end.");
        Check.refuses(1, "var i:integer;begin i^ x end.");
        Check.refuses(1, "var i:integer;begin for i^ x:=1 to 2 do end.");
        Check.refuses(1, "var i:integer;begin for i:=1^ x to 2 do end.");
        Check.refuses(1, "var i:integer;begin for i:=1 to 2^ x do end.");
        Check.refuses(1, "var v:array[1..2]of char;begin v^ x end.");
        Check.refuses(1, "var v:array[1..2]of char;begin v[1^ x]:='a' end.");
        Check.refuses(1, "begin write(1 in[1^ x])end.");
        Check.refuses(1, "begin write((1^ x))end.");
        Check.refuses(1, "begin write(ord^ x)end.");
        Check.refuses(1, "begin write(eof^ x)end.");
    }

    private static void notKnown() {
        Check.refuses(2, "const a=^x;begin end.");
        Check.refuses(2, "const a=-^x;begin end.");
        Check.refuses(2, "type a=^x;begin end.");
        Check.refuses(2, "type a=1..^x;begin end.");
        Check.refuses(2, "type a=array[^x]of char;begin end.");
        Check.refuses(2, "type a=array[1..2]of ^x;begin end.");
        Check.refuses(2, "var a:^x;begin end.");
        Check.refuses(2, "procedure p(a:^x);begin end;begin end.");
        Check.refuses(2, "function f:^x;begin end;begin end.");
        Check.refuses(2, "begin ^x end.");
        Check.refuses(2, "begin ^x(1)end.");
        Check.refuses(2, "begin if ^x then end.");
        Check.refuses(2, "begin for ^x:=1 to 2 do end.");
        Check.refuses(2, "begin case 1 of ^x:end end.");
        Check.refuses(2, "begin case 1 of 1:;^x:end end.");
        Check.refuses(2, "begin read(^x)end.");
        Check.refuses(2, "begin write(^x)end.");
        Check.refuses(2, "begin write(1 in[^x])end.");
        Check.refuses(2, "begin write(not ^x)end.");
        Check.refuses(2, "begin write(1+^x)end.");
        Check.refuses(2, "begin write(ord(^x))end.");
        Check.refuses(2, "procedure p(a:char);begin end;begin p(^x)end.");
        Check.refuses(2, "procedure p(var a:char);begin end;begin p(^x)end.");
    }

    private static final String[] SORTS = {"k", "true", "t", "integer", "v", "p", "f", "ord"};

    /** "that is of the wrong sort there: 1", of each sort of name in each place for names. */
    private static void wrongSort() {
        wrongBut("k true", "procedure q;const a=@;begin end;begin end.");
        wrongBut("k true", "procedure q;const a=-@;begin end;begin end.");
        wrongBut("k true", "procedure q;type a=1..@;begin end;begin end.");
        wrongBut("k true t integer", "procedure q;type a=@;begin end;begin end.");
        wrongBut("k true t integer", "procedure q;var a:@;begin end;begin end.");
        wrongBut("k true t", "procedure q;var a:array[@]of char;begin end;begin end.");
        wrongBut("k true t integer", "procedure q;var a:array[1..2]of @;begin end;begin end.");
        wrongBut("t integer", "procedure q(a:@);begin end;begin end.");
        wrongBut("t integer", "procedure q(var a:@);begin end;begin end.");
        wrongBut("t integer", "function q:@;begin end;begin end.");
        wrongBut("v p", "begin @:=1 end.");
        wrongBut("v p", "begin @ end.");
        wrongBut("v", "begin for @:=1 to 2 do end.");
        wrongBut("v", "begin read(@)end.");
        wrongBut("v", "begin read(v,@)end.");
        wrongBut("v", "procedure q(var a:integer);begin end;begin q(@)end.");
        wrongBut("k true", "begin case 1 of @:end end.");
        wrongBut("k true", "begin case 1 of 2,@:end end.");
        wrongBut("k true v f ord", "begin write(@)end.");
        wrongBut("k true v f ord", "begin v:=1+@ end.");
        wrongBut("k true v f ord", "begin v:=2*@ end.");
        wrongBut("k true v f ord", "begin v:=-@ end.");
        wrongBut("k true v f ord", "begin if not @ then end.");
        wrongBut("k true v f ord", "begin if @ then end.");
        wrongBut("k true v f ord", "begin v:=abs(@)end.");
        wrongBut("k true v f ord", "begin if 1 in[@]then end.");
    }

    private static void wrongBut(String fitting, String place) {
        String head = "const k=1;type t=1..2;var v:integer;procedure p;begin end;function f:integer;begin f:=1 end;";
        for (String sort : SORTS) {
            if (!(" " + fitting + " ").contains(" " + sort + " ")) {
                Check.refuses(1, head + place.replace("@", "^" + sort));
            }
        }
        Check.refuses(2, head + place.replace("@", "^x"));
    }

    /** "that is declared, and was already in this very block: 3". */
    private static void declaredInThisVeryBlock() {
        String[] first = {"const a=1;", "type a=char;", "var a:char;", "procedure a;begin end;", "function a:char;begin end;"};
        String[] again = {"const ^a=1;", "type ^a=char;", "var ^a:char;", "procedure ^a;begin end;", "function ^a:char;begin end;"};
        for (int i = 0; i < first.length; i++) {
            for (int k = Math.min(i + 1, 3); k < again.length; k++) {
                Check.refuses(3, first[i] + again[k] + "begin end.");
                Check.refuses(3, "procedure p;" + first[i] + again[k] + "begin end;begin end.");
                Check.accepts(first[i].charAt(0) == 'p' || first[i].charAt(0) == 'f' ? k < 3 ? 2 : 3 : k < 3 ? 1 : 2,
                    first[i] + "procedure p;" + again[k].replace("^", "") + "begin end;begin end.");
            }
        }
        Check.refuses(3, "const a=1;^a=1;begin end.");
        Check.refuses(3, "type a=char;^a=char;begin end.");
        Check.refuses(3, "var a:char;^a:char;begin end.");
        Check.refuses(3, "var a,b,^a:char;begin end.");
        Check.refuses(3, "var a,^a?");
        Check.refuses(3, "procedure p(a,^a:char);begin end;begin end.");
        Check.refuses(3, "procedure p(a:char;var ^a:char);begin end;begin end.");
        Check.accepts(2, "procedure p(a:char);var b:char;begin end;procedure q(a,b:char);begin end;begin end.");
        Check.accepts("var integer,true,ord,eof:char;begin end.");
        Check.refuses(3, "var integer,^integer:char;begin end.");
    }

    /** "(3 before 5)". */
    private static void threeBeforeFive() {
        Check.refuses(3, "var " + Check.names(120) + ",^a0:char;begin end.");
        Check.refuses(3, "var " + Check.names(120) + ",^a119:char;begin end.");
        Check.refuses(3, "var " + Check.names(120) + ":char;procedure ^a7;begin end;begin end.");
        Check.refuses(3, "procedure p(a,b,c,d,e,f,g,h,^h:char);begin end;begin end.");
        Check.refuses(3, "procedure p(a,b,c,d,e,f,g,h:char;var ^a:char);begin end;begin end.");
        Check.refuses(5, "var " + Check.names(120) + ",^b0:char;begin end.");
    }

    /** "the 121st name that is declared and known". */
    private static void name121() {
        String names = "var " + Check.names(120) + ":char;";
        Check.accepts(names + "begin end.");
        Check.refuses(5, "var " + Check.names(120) + ",^b:char;begin end.");
        Check.refuses(5, names + "^b:char;begin end.");
        Check.refuses(5, names + "procedure ^b;begin end;begin end.");
        Check.refuses(5, names + "function ^b:char;begin end;begin end.");
        String fewer = "var " + Check.names(119) + ":char;";
        Check.accepts(fewer + "b:char;begin end.");
        Check.accepts(1, fewer + "procedure b;begin end;begin end.");
        Check.refuses(5, fewer + "b:char;^c:char;begin end.");
        Check.refuses(5, fewer + "procedure b(^c:char);begin end;begin end.");
        Check.refuses(5, fewer + "procedure b(var ^c:char);begin end;begin end.");
        Check.refuses(5, fewer + "procedure b;const ^c=1;begin end;begin end.");
        Check.refuses(5, fewer + "procedure b;type ^c=char;begin end;begin end.");
        Check.refuses(5, fewer + "procedure b;var ^c:char;begin end;begin end.");
        Check.refuses(5, fewer + "procedure b;procedure ^c;begin end;begin end;begin end.");
        Check.refuses(5, fewer + "procedure b;begin end;procedure ^c;begin end;begin end.");
        String mixed = "const c=1;d=2;type e=char;f=char;var " + Check.names(114) + ":char;";
        Check.accepts(1, mixed + "procedure p(g:char);begin end;begin end.");
        Check.refuses(5, mixed + "procedure p(g,^h:char);begin end;begin end.");
        Check.refuses(5, mixed + "procedure p(g:char);var ^h:char;begin end;begin end.");
        Check.accepts(2, mixed + "procedure p;begin end;procedure q;begin end;begin end.");
        Check.refuses(5, mixed + "procedure p;begin end;procedure q;begin end;procedure ^r;begin end;begin end.");
    }

    /** "(those KNOWN outside, and those of blocks that have ended, not counted)". */
    private static void namesThatAreNotCounted() {
        String most = "var " + Check.names(110) + ":char;";
        String inner = "(a,b,c,d:char);var e,f,g,h:char;begin end;";
        Check.accepts(2, most + "procedure p" + inner + "procedure q" + inner.replace(",g,h", ",g") + "begin end.");
        Check.refuses(5, most + "procedure p" + inner + "procedure q" + inner.replace("h:", "h,^i:") + "begin end.");
        Check.refuses(5, most + "procedure p" + inner.replace("h:", "h,i,^j:") + "begin end.");
        Check.accepts(1, most + "procedure p" + inner.replace("h:", "h,i:") + "begin end.");
        Check.accepts("var " + Check.names(118) + ",integer,true:char;begin end.");
        Check.refuses(5, "var " + Check.names(118) + ",integer,true,^ord:char;begin end.");
        StringBuilder many = new StringBuilder();
        for (int i = 0; i < 14; i++) {
            many.append("procedure p").append(i).append("(a,b,c,d,e,f,g,h:char);var i,j,k,l:char;begin end;");
        }
        Check.accepts(14, many + "begin end.");
    }

    /** "the ninth parameter". */
    private static void ninthParameter() {
        Check.accepts(1, "procedure p(a,b,c,d,e,f,g,h:char);var i:char;begin end;begin end.");
        Check.refuses(5, "procedure p(a,b,c,d,e,f,g,h,^i:char);begin end;begin end.");
        Check.refuses(5, "procedure p(a,b,c,d,e,f,g,h,^i");
        Check.refuses(5, "procedure p(a,b:char;c,d:char;e,f:char;g,h:char;^i:char);begin end;begin end.");
        Check.refuses(5, "function p(var a,b,c,d,e,f,g,h:char;var ^i:char):char;begin end;begin end.");
        Check.refuses(1, "procedure p(a,b,c,d,e,f,g,h,^begin");
        Check.refuses(1, "procedure p(a,b,c,d,e,f,g,h:char;^)");
        Check.refuses(2, "procedure p(a,b,c,d,e,f,g,h:^x;i");
        Check.accepts(2, "procedure p(a,b,c,d,e:char);begin end;procedure q(a,b,c,d,e:char);begin end;begin end.");
    }

    /** "the seventh block within one another, the program's the first (its procedure or function)". */
    private static void seventhBlock() {
        Check.accepts(5, Check.nested(5, "") + "begin end.");
        Check.accepts(6, "procedure q;begin end;" + Check.nested(5, "") + "begin end.");
        Check.refuses(5, Check.nested(5, "^procedure q;begin end;") + "begin end.");
        Check.refuses(5, Check.nested(5, "^function q:char;begin end;") + "begin end.");
        Check.refuses(5, Check.nested(5, "var a:char;^procedure ;"));
        Check.refuses(5, Check.nested(5, "^procedure ?"));
        Check.accepts(10, Check.nested(5, "") + Check.nested(5, "").replace("procedure p", "procedure q") + "begin end.");
        Check.accepts(6, Check.nested(4, "procedure q;begin end;procedure r;begin end;") + "begin end.");
        Check.refuses(5, Check.nested(4, "procedure q;begin end;function r:char;^procedure s;"));
    }

    /** "the word behind an array's range if that is too long". */
    private static void behindTheRangeOfAnArray() {
        Check.refuses(5, "var a:array[1..501^]of char;begin end.");
        Check.refuses(5, "var a:array[1..501{}^]of array");
        Check.refuses(5, "type r=1..501;var a:array[r^]of char;begin end.");
        Check.refuses(1, "var a:array[1..501^)of char;begin end.");
        Check.refuses(1, "var a:array[1..501^ of char;begin end.");
        Check.refuses(1, "type r=1..501;var a:array[r^..2]of char;begin end.");
        Check.refuses(1, "var a:array[1..501^?");
        Check.refuses(4, "var a:array[501..1^]of char;begin end.");
        Check.refuses(4, "var a:array['a'..501^]of char;begin end.");
        Check.accepts("type r=1..501;var a:r;b:array[1..500]of r;begin end.");
    }

    /** A statement that stands so deep. */
    private static String at(int depth, String statement) {
        return "begin " + Check.repeated("begin ", depth - 1) + statement + Check.repeated(" end", depth) + ".";
    }

    private static final String HEAD = "var i:integer;c:char;b:boolean;s:set;v:array[1..2]of integer;"
        + "procedure p(x:integer);begin end;procedure q(var x:integer);begin end;procedure r;begin end;"
        + "function f(x:integer):integer;begin f:=1 end;function g(var x:integer):integer;begin g:=1 end;";

    private static void fineAt(int depth, String statement) {
        Check.accepts(5, HEAD + at(depth, statement));
    }

    private static void tooDeepAt(int depth, String statement) {
        Check.refuses(5, HEAD + at(depth, statement));
    }

    /** "the first word of a statement (also of nothing) within a statement ... if it is deeper than 20". */
    private static void deepStatements() {
        fineAt(20, "");
        fineAt(20, ";;");
        fineAt(20, "r");
        fineAt(20, "r;read(i);writeln;");
        tooDeepAt(21, "^");
        tooDeepAt(21, "^;");
        tooDeepAt(21, "^r");
        tooDeepAt(20, "begin^ end");
        tooDeepAt(20, "repeat^ until true");
        tooDeepAt(20, "repeat^ r until true");
        fineAt(19, "if b then");
        fineAt(19, "if b then r else r");
        fineAt(19, "while b do r");
        fineAt(19, "repeat r;r until b");
        fineAt(19, "for i:=1 to 2 do r");
        fineAt(19, "case i of 1:r;2:;;3:r;end");
        tooDeepAt(19, "if b then begin^ r end");
        tooDeepAt(19, "if b then else begin^ end");
        tooDeepAt(19, "while b do begin^ end");
        tooDeepAt(19, "repeat begin^ end until b");
        tooDeepAt(19, "repeat r;begin^ end until b");
        tooDeepAt(19, "for i:=1 to 2 do begin^ end");
        tooDeepAt(19, "case i of 1:begin^ end end");
        tooDeepAt(19, "case i of 1:r;2:begin^ end end");
        tooDeepAt(18, "if b then while b do begin^ end");
        Check.accepts("var b:boolean;begin " + Check.repeated("if b then ", 19) + "end.");
        Check.accepts("var b:boolean;begin " + Check.repeated("if b then else ", 19) + "end.");
        Check.accepts("var b:boolean;begin " + Check.repeated("while b do ", 19) + "end.");
        Check.accepts("begin " + Check.repeated("repeat ", 19) + Check.repeated(" until true", 19) + " end.");
        Check.accepts("var i:integer;begin " + Check.repeated("for i:=1 to 2 do ", 19) + "end.");
        Check.accepts("begin " + Check.repeated("case 1 of 1:", 19) + Check.repeated("end ", 20) + ".");
        Check.refuses(5, "begin " + Check.repeated("repeat ", 20) + "^until true");
    }

    /** "of an expression ... in a statement", one deeper than that. */
    private static void deepExpressionsInStatements() {
        String[] statements = {"i:=^1", "v[^1]:=1", "p(^1)", "q(v[^1])", "if ^b then", "while ^b do", "for i:=^1 to 2 do",
            "for i:=1 to 2 do", "case ^i of 1:end", "read(v[^1])", "read(i,v[^1])", "write(^1)", "write('ab',^1)", "writeln(^b)"};
        for (String statement : statements) {
            fineAt(19, statement.replace("^", ""));
            if (statement.contains("^")) {
                tooDeepAt(20, statement);
            }
        }
        fineAt(19, "repeat until b");
        fineAt(18, "v[1]:=v[2]");
        tooDeepAt(19, "v[1]:=v[^1]");
        tooDeepAt(19, "for i:=(^1)to 2 do");
        tooDeepAt(19, "for i:=1 to(^2)do");
        tooDeepAt(19, "for i:=1 downto(^2)do");
        tooDeepAt(19, "repeat until(^b)");
        tooDeepAt(19, "case(^i)of 1:end");
        tooDeepAt(19, "if(^b)then");
        tooDeepAt(19, "while(^b)do");
        tooDeepAt(19, "write(1,(^1))");
        tooDeepAt(19, "p((^1))");
        tooDeepAt(19, "q(v[(^1)])");
        tooDeepAt(19, "read(v[(^1)])");
        tooDeepAt(19, "v[(^1)]:=1");
    }

    /** "of an expression within one", each one deeper than what it stands in. */
    private static void deepExpressionsInExpressions() {
        String[][] nests = {{"(", ")"}, {"abs(", ")"}, {"sqr(", ")"}, {"v[", "]"}, {"f(", ")"}, {"g(v[", "])"}, {"1+(", ")"},
            {"-(", ")"}, {"2*(1-(1)-", ")"}, {"ord(", ")"}, {"succ(", ")"}};
        for (String[] nest : nests) {
            boolean extra = nest[0].startsWith("2");
            Check.accepts(5, HEAD + "begin i:=" + Check.repeated(nest[0], extra ? 17 : 18) + "1"
                + Check.repeated(nest[1], extra ? 17 : 18) + " end.");
            if (!extra) {
                Check.refuses(5, HEAD + "begin i:=" + Check.repeated(nest[0], 19) + "^1" + Check.repeated(nest[1], 19) + " end.");
            }
        }
        fineAt(18, "i:=(1)+abs(1)+v[1]+f(1)+g(v[1])+g(i)");
        fineAt(18, "s:=[1,2..3,i..4]");
        tooDeepAt(18, "i:=(abs(^1))");
        tooDeepAt(18, "i:=v[v[^1]]");
        tooDeepAt(18, "i:=f(f(^1))");
        tooDeepAt(18, "i:=g(v[(^1)])");
        tooDeepAt(18, "s:=[(^1)]");
        tooDeepAt(18, "s:=[1,(^2)]");
        tooDeepAt(18, "s:=[1..(^2)]");
        tooDeepAt(18, "s:=[1,2..3,4..abs(^5)]");
        tooDeepAt(19, "s:=[^1]");
        tooDeepAt(19, "i:=(^1)");
        tooDeepAt(19, "i:=2*abs(^1)");
        fineAt(19, "s:=[]");
        fineAt(19, "i:=g(i)");
        fineAt(19, "i:=1+2*3-i;b:=1=2;b:=b or eof;b:=1 in[]");
    }

    /** "or of a factor behind not". */
    private static void deepFactorsBehindNot() {
        Check.accepts("begin write(" + Check.repeated("not ", 18) + "true)end.");
        Check.refuses(5, "begin write(" + Check.repeated("not ", 19) + "^true)end.");
        Check.refuses(5, "begin write(" + Check.repeated("not ", 19) + "^not true)end.");
        fineAt(18, "b:=not b");
        tooDeepAt(19, "b:=not ^b");
        tooDeepAt(18, "b:=not not ^b");
        tooDeepAt(18, "b:=not(^b)");
        tooDeepAt(18, "b:=not odd(^1)");
        tooDeepAt(17, "b:=not(not ^b)");
        fineAt(17, "b:=not(b)and not not b");
        fineAt(18, "b:=not b and not b or not b=not b");
        tooDeepAt(19, "b:=b and not ^b");
        tooDeepAt(19, "if not ^b then");
    }

    /** "the statements of a block's own begin .. end being 1 deep". */
    private static void eachBlockBeginsAnew() {
        Check.accepts(1, "procedure p;" + at(20, "").replace(".", ";") + at(20, ""));
        Check.refuses(5, "procedure p;" + at(21, "^").replace(".", ";") + "begin end.");
        Check.accepts(2, "procedure p;procedure q;" + at(20, "").replace(".", ";") + at(20, "").replace(".", ";") + at(20, ""));
        Check.refuses(5, "procedure p;procedure q;" + at(21, "^"));
    }

    /** What is neither a statement, nor an expression, nor a factor behind not is no deeper. */
    private static void whatIsNoDeeper() {
        fineAt(20, "q(i)");
        fineAt(20, "read(i,c)");
        fineAt(20, "writeln");
        fineAt(20, "write('ab')");
        fineAt(20, "writeln('ab','cd')");
        fineAt(19, "case i of 1,2,3:;-4:end");
        fineAt(19, "i:=-i*i+i div i-i mod i");
    }

    /** "(5 before 1 there.)" */
    private static void fiveBeforeOne() {
        String[] words = {")", "]", "end", "then", "'ab'", "x", "integer", ":=", ".", "procedure", "r", ""};
        for (String word : words) {
            tooDeepAt(20, "i:=^" + word);
            tooDeepAt(20, "if ^" + word);
            tooDeepAt(19, "i:=(^" + word);
            tooDeepAt(19, "b:=not ^" + word);
            tooDeepAt(19, "s:=[^" + word.replace("]", ")"));
            tooDeepAt(20, "begin ^" + word);
        }
        fineAt(19, "s:=[]");
        String[] none = {"?", "{", "'"};
        for (String word : none) {
            Check.refuses(1, HEAD + "begin " + Check.repeated("begin ", 19) + "i:=^" + word);
            Check.refuses(1, HEAD + "begin " + Check.repeated("begin ", 20) + "^" + word);
            Check.refuses(1, HEAD + "begin " + Check.repeated("begin ", 18) + "b:=not ^" + word);
        }
    }

    /** "The place is the word's first byte; behind all words the tape's length." */
    private static void places() {
        Check.refusesAt(1, 0, "");
        Check.refusesAt(1, 1, " ");
        Check.refusesAt(1, 5, "begin");
        Check.refusesAt(1, 6, "begin ");
        Check.refusesAt(1, 12, "begin {x}\n\t ");
        Check.refusesAt(1, 9, "begin end");
        Check.refusesAt(1, 11, "begin end  ");
        Check.refusesAt(1, 13, "begin end. {}x");
        Check.refusesAt(4, 11, "begin if 1 ");
        Check.refusesAt(4, 14, "begin if 1 {} then end.");
        Check.refusesAt(2, 9, "begin    abc:=1 end.");
        Check.refusesAt(2, 11, "begin {abc}abc:=1 end.");
        Check.refusesAt(3, 8, "var a,  a:char;begin end.");
        Check.refusesAt(5, 7, "var   \nabcdefghijklm:char;begin end.");
        Check.refusesAt(5, 9, "const a= 2147483648;begin end.");
        Check.refusesAt(1, 14, "begin write(  'ab)end.");
        Check.refusesAt(1, 7, "begin;;");
        Check.refusesAt(1, 120, "begin" + Check.repeated(" begin", 19) + " ");
        Check.refusesAt(5, 126, "begin" + Check.repeated(" begin", 20) + " ");
        TaggedPascal machine = new TaggedPascal();
        Check.feed(machine, "begin x end.");
        Check.due("compile", machine.compile(), -1);
        Check.due("place", machine.place(), 6);
        machine.feed(1, 'x');
        machine.feed(1, 'x');
        machine.wipe();
        Check.due("place: the same, whatever comes on the tape", machine.place(), 6);
    }
}
