/** "What it is" and the first paragraph of "Terms": each sentence that names an edge, at it and one beyond it. */
public final class WordEdgesTest {
    public static void main(String[] args) {
        callsOfOneObject();
        faultsOfOneObject();
        tapeOf1500();
        bytesNotAbove32();
        remarks();
        lettersAndFigures();
        twelveLetters();
        greatestNumber();
        bytesOfStrings();
        oneByteOrMore();
        longestSigns();
        reservedWords();
        wordsThatTouch();
        Check.finish();
    }

    /** "An object is used for at most 512 calls after it has been made": 188 of feed, then 108 times three. */
    private static void callsOfOneObject() {
        TaggedPascal machine = new TaggedPascal();
        String source = "var i:integer;begin for i:=1 to 90 do write('abc',i)end.";
        Check.feed(machine, Check.repeated(" ", 1500 - source.length()) + source);
        for (int k = 0; k < 108; k++) {
            Check.due("compile " + k + " of many calls", machine.compile(), 0);
            Check.due("run " + k + " of many calls", machine.run(20000), 0);
            Check.due("text " + k + " of many calls", machine.text(0), 0x3263626131636261L);
        }
    }

    /** The same for compile() alone, with what costs most, and a fault at its end. */
    private static void faultsOfOneObject() {
        TaggedPascal machine = new TaggedPascal();
        StringBuilder many = new StringBuilder();
        for (char c = 'a'; c <= 'z'; c++) {
            many.append("procedure ").append(c).append("(q:char);type x=1..2;y=set;begin end;");
        }
        many.append("begin ");
        int length = many.length();
        Check.feed(machine, many.toString());
        int left = 512 - (length + 7) / 8 - 2;
        for (int k = 0; k < left; k++) {
            Check.due("compile " + k + " of a fault", machine.compile(), -1);
        }
        Check.due("fault of many calls", machine.fault(), 1);
        Check.due("place of many calls", machine.place(), length);
    }

    /** "THE TAPE has up to 1500 bytes." */
    private static void tapeOf1500() {
        String source = "begin write(1)end.";
        String blanks = Check.repeated(" ", 1500 - source.length());
        TaggedPascal machine = Check.compiled(blanks + source);
        Check.due("a program that ends with the tape", machine.run(1), 0);
        Check.due("what it writes", machine.text(0), '1');
        machine = Check.compiled(source + blanks);
        Check.due("a tape of 1500 ends with blanks", machine.run(1), 0);
        Check.refusesAt(1, 1500, "begin " + Check.repeated(" ", 1494));
        Check.refusesAt(1, 1499, "begin end." + Check.repeated(" ", 1489) + "?");
        Check.refusesAt(1, 1499, "begin end." + Check.repeated(" ", 1489) + "{");
        Check.accepts("begin end.{" + Check.repeated("x", 1488) + "}");
        Check.refusesAt(1, 10, "begin end.{" + Check.repeated("x", 1489));
        Check.accepts("begin " + Check.repeated(";", 1490) + "end.");
        Check.refusesAt(5, 0, Check.repeated("a", 1500));
        Check.refusesAt(5, 6, "const " + Check.repeated("9", 1494));
    }

    /** "BLANKS are bytes not above 32". */
    private static void bytesNotAbove32() {
        for (int b = 0; b <= 255; b++) {
            String one = String.valueOf((char) b);
            boolean joins = b >= 'a' && b <= 'z' || b >= '0' && b <= '9';
            if (b <= 32) {
                Check.accepts(one + "begin" + one + one + "end" + one + "." + one);
            } else if (b == ';') {
                Check.accepts("begin;end.");
            } else {
                Check.refusesAt(1, joins ? 0 : 5, "begin" + one + "end.");
            }
            if (b > 32) {
                Check.refusesAt(1, b == '.' ? 9 : 10, "begin end." + one);
            }
        }
        Check.refuses(1, "^be gin end.");
        Check.refuses(1, "const a=1 ^2;begin end.");
        Check.refusesAt(1, 14, "begin \n\0\t\1 end");
        Check.refusesAt(1, 16, "begin end \n\t {} ");
    }

    /** "and { up to the next }". */
    private static void remarks() {
        Check.accepts("{}begin{ }end{x}.{}");
        Check.accepts("begin{{}end.");
        Check.accepts("begin{{{{}end.");
        Check.refuses(1, "begin{{}^}end.");
        Check.refuses(1, "begin{a};^}end.");
        Check.accepts("begin{'}end.");
        Check.accepts("begin{''' \0\n\177\200\377 ; end. (* }end.");
        Check.accepts("begin{}{}{}end.{}{}");
        Check.refuses(1, "^be{}gin end.");
        Check.refuses(1, "const a=1{}^2;begin end.");
        Check.refuses(1, "var a:integer;begin a^:{}=1 end.");
        Check.writes("begin write('{',1,'}','{}','a{b')end.", "{1}{}a{b");
        Check.refuses(1, "begin ^{ end.");
        Check.refuses(1, "begin end.^{");
        Check.refuses(1, "begin end.{}^{{");
        Check.refuses(1, "^{");
        Check.refuses(1, "^}begin end.");
        Check.refuses(1, "begin ^(* x *) end.");
        Check.refuses(1, "begin ^// end.");
        Check.refusesAt(1, 2, "{}");
        Check.refusesAt(1, 9, " {begin} ");
    }

    /** "NAMES (a letter a .. z, then letters and figures". */
    private static void lettersAndFigures() {
        StringBuilder one = new StringBuilder("a");
        StringBuilder two = new StringBuilder("aa");
        for (char c = 'b'; c <= 'z'; c++) {
            one.append(",").append(c);
            two.append(",a").append(c);
        }
        for (char c = '0'; c <= '9'; c++) {
            two.append(",a").append(c);
        }
        Check.accepts("var " + one + "," + two + ":char;begin end.");
        Check.accepts("var a0123456789,z9876543210,z00,z0,z:integer;begin z00:=1;z0:=2;z:=3 end.");
        Check.writes("const ag0=1;abr=2;a1=3;a01=4;b=5;aa0=6;z=7;a0=8;begin write(ag0,abr,a1,a01,b,aa0,z,a0)end.", "12345678");
        for (char c = '0'; c <= '9'; c++) {
            Check.refuses(1, "var ^" + c + "a:integer;begin end.");
            Check.refuses(2, "begin ^a" + c + ":=1 end.");
        }
        for (char c = 'A'; c <= 'Z'; c++) {
            Check.refuses(1, "var ^" + c + ":integer;begin end.");
            Check.refuses(1, "var a^" + c + ":integer;begin end.");
        }
        Check.refuses(1, "var a^_1:integer;begin end.");
        Check.refuses(1, "var a^\341:integer;begin end.");
    }

    /** "12 at most", "a name too long: 5". */
    private static void twelveLetters() {
        Check.writes("var abcdefghijkl,abcdefghijkm,abcdefghijk:integer;begin abcdefghijkl:=1;abcdefghijkm:=2;"
            + "abcdefghijk:=3;write(abcdefghijkl,abcdefghijkm,abcdefghijk)end.", "123");
        Check.writes("const zzzzzzzzzzzz=1;a99999999999=2;z99999999999=3;zzzzzzzzzzz9=4;"
            + "begin write(zzzzzzzzzzzz,a99999999999,z99999999999,zzzzzzzzzzz9)end.", "1234");
        Check.refuses(3, "var abcdefghijkl,^abcdefghijkl:integer;begin end.");
        Check.refuses(5, "var ^abcdefghijklm:integer;begin end.");
        Check.refuses(5, "var a,^a123456789012,a:integer;begin end.");
        Check.refuses(5, "^procedureaaaa p;begin end;begin end.");
        Check.refuses(5, "begin end ^abcdefghijklm.");
        Check.refuses(5, "^abcdefghijklm");
        Check.refuses(5, "begin ^abcdefghijklm:=1 end.");
        Check.accepts("begin write('abcdefghijklmnopqrstuvwxyz'){abcdefghijklmnopqrstuvwxyz}end.");
    }

    /** "NUMBERS (figures, up to 2147483647)", "a number too great: 5". */
    private static void greatestNumber() {
        Check.writes("const a=2147483647;b=-2147483647;begin write(2147483647,b,a)end.",
            "2147483647-21474836472147483647");
        String[] tooGreat = {"2147483648", "2147483649", "2147483650", "2147483700", "2200000000", "3000000000",
            "4294967295", "4294967296", "4294967297", "9999999999", "10000000000", "21474836470", "42949672970",
            "9223372036854775807", "9223372036854775808", "18446744073709551615", "18446744073709551616",
            "18446744073709551617", "184467440737095516170", "1" + Check.repeated("0", 64), "00002147483648"};
        for (String number : tooGreat) {
            Check.refuses(5, "const a=^" + number + ";begin end.");
            Check.refuses(5, "const a=-^" + number + ";begin end.");
            Check.refuses(5, "begin ^" + number);
        }
        Check.refuses(1, "begin write(1^.5)end.");
        Check.refuses(1, "begin write(^.5)end.");
        Check.refuses(1, "begin write(1^e5)end.");
        Check.refuses(1, "begin write(^$5)end.");
        Check.writes("begin write(0,00,007,000000000000000000002147483647," + Check.repeated("0", 900) + "9)end.",
            "00721474836479");
    }

    /** "STRINGS (between ', one or more bytes 32 .. 126 but ')". */
    private static void bytesOfStrings() {
        StringBuilder all = new StringBuilder();
        for (int b = 0; b <= 255; b++) {
            String one = String.valueOf((char) b);
            if (b >= 32 && b <= 126 && b != '\'') {
                Check.accepts("const a='" + one + "';begin end.");
                all.append(one);
            } else {
                Check.refusesAt(1, 8, "const a='" + one + "';begin end.");
                Check.refusesAt(1, b == '\'' ? 15 : 12, "begin write('a" + one + "b')end.");
            }
        }
        TaggedPascal machine = Check.compiled("begin write('" + all + "')end.");
        Check.due("run with all bytes of strings", machine.run(1), 0);
        Check.due("all bytes of strings", Check.output(machine), all.toString());
    }

    private static void oneByteOrMore() {
        Check.refuses(1, "begin write(^'')end.");
        Check.refuses(1, "begin write(^'''')end.");
        Check.writes("begin write('a','ab','abc')end.", "aababc");
        String most = Check.repeated("x", 1480);
        Check.writes("begin write('" + most + "')end.", most);
        Check.refuses(1, "begin write(^'a)end.");
        Check.refuses(1, "begin write('a'^')end.");
        Check.refuses(1, "begin write(^'");
        Check.refuses(1, "^'");
        Check.refuses(1, "begin write(^'a\n')end.");
    }

    /** "(the longest that can be)". */
    private static void longestSigns() {
        String head = "var a:boolean;i:integer;begin ";
        Check.accepts(head + "i:=1;a:=1<>2;a:=1<=2;a:=1>=2;a:=1<2;a:=1>2;a:=1=2 end.");
        Check.accepts(head + "a:=1<-2;a:=1>+2;a:=1=-2;a:=1<>-2;a:=1<=+2;a:=1>=-2;i:=-1 end.");
        Check.refuses(1, head + "a:=1<>^=2 end.");
        Check.refuses(1, head + "a:=1<=^>2 end.");
        Check.refuses(1, head + "a:=1<=^=2 end.");
        Check.refuses(1, head + "a:=1>=^=2 end.");
        Check.refuses(1, head + "a:=1>^<2 end.");
        Check.refuses(1, head + "a:=1>^>2 end.");
        Check.refuses(1, head + "a:=1=^>2 end.");
        Check.refuses(1, head + "a:=1=^=2 end.");
        Check.refuses(1, head + "a:=^=1 end.");
        Check.refuses(1, head + "a^::=1 end.");
        Check.refuses(1, head + "a^: =1 end.");
        Check.refuses(1, head + "a:=1< ^=2 end.");
        Check.refuses(1, head + "a:=1> ^=2 end.");
        Check.refuses(1, head + "a:=1< ^>2 end.");
        Check.refuses(1, "const a^:=1;begin end.");
        Check.refuses(1, "type a=1^. .2;begin end.");
        Check.refuses(1, "type a=1..^.2;begin end.");
        Check.refuses(1, "type a=1..^..2;begin end.");
        Check.refuses(1, "begin end^..");
        Check.refuses(1, "begin end.^ .");
        Check.refuses(1, "begin write(1)end^...");
    }

    /** All words that are reserved, and none besides. */
    private static void reservedWords() {
        String[] reserved = ("const type var procedure function begin end if then else while do repeat until for to"
            + " downto case of array set div mod and or not in read write writeln").split(" ");
        for (String word : reserved) {
            Check.refuses(1, "var a:integer;procedure ^" + word + ";begin end;begin end.");
            Check.refuses(1, "procedure p(a:integer;var ^" + word + ":integer);begin end;begin end.");
            Check.accepts("var " + word + "0," + word + "x,x" + word + ":integer;begin " + word + "0:=1 end.");
        }
        String[] free = ("program record with goto label nil packed file string readln integer char boolean real true"
            + " false ord chr succ pred odd abs sqr eof eoln xor shl input output text get put new unit uses").split(" ");
        for (String word : free) {
            Check.accepts("const " + word + "=1;begin write(" + word + ")end.");
        }
    }

    /** Blanks may stand between words, and need not where the words are told apart without. */
    private static void wordsThatTouch() {
        Check.writes("var a:integer;begin a:=1;if a=1then write('b')else write('c');case a of 1:write(1)end end.", "b1");
        Check.writes("begin write(7div 2,7mod 2,'a'='a')end.", "31true");
        Check.refuses(1, "const a=1^b;begin end.");
        Check.refuses(1, "const a='b'^'c';begin end.");
    }
}
