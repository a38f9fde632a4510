/** Promises 4, 5 and 6: words, and what is none. */
public final class WordsTest {
    public static void main(String[] args) {
        blanks();
        names();
        numbers();
        strings();
        signs();
        order();
        Check.finish();
    }

    private static void blanks() {
        Check.accepts("begin end.");
        Check.accepts("\0\1 begin\t\r\nend . \n");
        Check.accepts("{a}begin{b}{c'}end{}.{ begin }");
        Check.accepts("{{}begin end.");
        Check.refuses(1, "begin{}^}end.");
        Check.refuses(1, "begin end. ^{ no end");
        Check.refuses(1, "^{ begin end.");
        Check.refuses(1, "begin^!end.");
        Check.refuses(1, "begin^\177end.");
        Check.refuses(1, "begin ^\200 end.");
        Check.refuses(1, "begin ^\377 end.");
        Check.refuses(1, "^Begin end.");
        Check.refuses(1, "^b\0Egin end.");
        Check.refuses(1, "^");
        Check.refuses(1, "  {x} ^");
    }

    private static void names() {
        Check.accepts("var a12345678901:integer;begin a12345678901:=1 end.");
        Check.refuses(5, "var ^a123456789012:integer;begin end.");
        Check.refuses(5, "var a:^aaaaaaaaaaaaaaaaaaaaaaaaaaaaaaaaaaaaaaaa;begin end.");
        Check.accepts("var a1,a2,a:integer;begin a1:=1;a2:=2;a:=3 end.");
        Check.accepts("var beginx,ende:integer;begin beginx:=1;ende:=2 end.");
        Check.refuses(2, "var abcdefghijk1:integer;begin ^abcdefghijk2:=1 end.");
        Check.accepts("var az,a0,a,z,aa,a1,zz,a9,zzzzzzzzzzzz,zzzzzzzzzzz9,a99999999999,b00000000000:integer;begin end.");
        Check.refuses(1, "var ^end:integer;begin end.");
        Check.refuses(1, "var a^_b:integer;begin end.");
        Check.refuses(5, "begin end. ^aaaaaaaaaaaaa");
        String[] reserved = ("const type var procedure function begin end if then else while do repeat until for to"
            + " downto case of array set div mod and or not in read write writeln").split(" ");
        for (String word : reserved) {
            Check.refuses(1, "const ^" + word + "=1;begin end.");
        }
        String[] outside = "integer char boolean false true ord chr succ pred odd abs sqr eof eoln".split(" ");
        for (String word : outside) {
            Check.accepts("const " + word + "=1;begin writeln(" + word + "+1)end.");
        }
    }

    private static void numbers() {
        Check.accepts("const a=2147483647;b=-2147483647;c=0000000000000000000001;begin end.");
        Check.refuses(5, "const a=^2147483648;begin end.");
        Check.refuses(5, "const a=-^2147483648;begin end.");
        Check.refuses(5, "const a=^99999999999999999999999999999999;begin end.");
        Check.refuses(5, "const a=^18446744073709551617;begin end.");
        Check.writes("const a=12;begin write(a div 5,007)end.", "27");
        Check.accepts("begin if 1=1then end.");
        Check.refuses(1, "const a=1^b;begin end.");
        Check.accepts("type a=1..2;begin end.");
        Check.refuses(5, "begin end. ^2147483648");
    }

    private static void strings() {
        Check.accepts("const a='b';b=' ';c='~';d='{';begin end.");
        Check.refuses(1, "const a=^'';begin end.");
        Check.refuses(1, "const a=^'b;begin end.");
        Check.refuses(1, "const a=^'b\n';begin end.");
        Check.refuses(1, "const a=^'\177';begin end.");
        Check.refuses(1, "const a=^'\37';begin end.");
        Check.refuses(1, "const a=^'\200';begin end.");
        Check.refuses(1, "const a=^'bc';begin end.");
        Check.refuses(1, "begin end. ^'");
        Check.writes("begin write('{','a}b','it','~ ')end.", "{a}bit~ ");
    }

    private static void signs() {
        Check.accepts("var a:boolean;begin a:=1<>2;a:=1<=2;a:=1>=2;a:=1<2;a:=1>2;a:=1=2 end.");
        Check.refuses(1, "var a:boolean;begin a^: =1 end.");
        Check.refuses(1, "var a:boolean;begin a:=1< ^>2 end.");
        Check.refuses(1, "var a:boolean;begin a:=1=^<2 end.");
        Check.refuses(1, "type a=1^.2;begin end.");
        Check.refuses(1, "type a=1..^.2;begin end.");
        Check.refuses(1, "begin end^..");
        Check.refuses(1, "begin end. ^.");
        Check.refuses(1, "begin^@end.");
        Check.refuses(1, "begin^/end.");
        Check.refuses(1, "begin^\"end.");
    }

    /** The first fault is that of the first word; of one word, that it is none comes first. */
    private static void order() {
        Check.refuses(1, "begin ^? ; x end.");
        Check.refuses(2, "begin ^x ? end.");
        Check.refuses(1, "begin if 1 ^? end.");
        Check.refuses(5, "begin if 1 ^2147483648 end.");
        Check.refuses(5, "begin if 1 ^aaaaaaaaaaaaa end.");
        Check.refuses(1, "begin if 1 ^'' end.");
        Check.refuses(1, "begin if 1 ^'a end.");
        Check.refuses(1, "begin if 1 ^{ end.");
        Check.refuses(4, "begin if 1 ^'ab' end.");
        Check.refuses(4, "begin if 1 ^then ? end.");
        Check.refuses(4, "begin if 1 ^x end.");
        Check.refuses(4, "begin if 1 ^");
        Check.refuses(1, "begin if true ^x end.");
    }
}
