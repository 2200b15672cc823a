import java.util.List;

/** The edges that section 1 of the terms names: THE TAPE, TOKENS, the grammar and THE FAULT. */
final class EdgesOfText extends Edges {
    private EdgesOfText() {
    }

    static void all() {
        tapeTakes300();
        tokens();
        keys();
        namesAndNumbers();
        sixteenThings();
        formsOfThings();
        ends();
        wholes();
        sums();
        terms();
        ones();
        fourOpen();
        firstFault();
        faultsThatCannotStand();
        faultsOfNames();
        faultsOfEndsAndCorners();
        endsMayBeOne();
    }

    private static void tapeTakes300() {
        says("1", "THE TEXT. THE TAPE takes bytes, 300 at most; read() uses it up.");
        String all = "helper h=" + "1+".repeat(144) + "1; ";
        StoreStreams x = new StoreStreams();
        Check.feed(x, all.substring(0, 296));
        due("five bytes to 296", x.feed(0x2020203b31L, 5), FULL);
        due("many(4)", x.many(4), 296);
        Check.feed(x, all.substring(296));
        due("many(4)", x.many(4), 300);
        due("one byte more", x.feed(' ', 1), FULL);
        due("read() of 300 bytes", x.read(), 1);
        due("value(0) of 145 ones", x.value(0), 145);
        due("many(4)", x.many(4), 0);
        due("read(): no byte is left", x.read(), 0);
        Check.feed(x, "?".repeat(300));
        due("many(4)", x.many(4), 300);
        due("read() with a FAULT", x.read(), -101);
        due("many(4)", x.many(4), 0);
        due("feed behind it", x.feed(' ', 1), 1);
    }

    private static void tokens() {
        says("1", "TOKENS, each as long as it can be: WORDS (letters a to z), NUMBERS (digits), other bytes one each; blanks "
            + "(32) between.");
        faulty(1, "|storea=1;");
        faulty(1, "store a|1=5;");
        faulty(1, "store |1a=5;");
        fine("store az=1;store za=1;number n=1;number o=2;");
        fine("number n=09;number o=90;");
        due("12 is one NUMBER", with("number n=12;").value(0), 12);
        faulty(1, "number n=1 |2;");
        for (char other : new char[] {'`', '{', '@', 'A', 'Z', '[', '/', ':', '_', '.', '\'', '"'}) {
            faulty(1, "store |" + other + "=1;");
            faulty(1, "store a|" + other + "=1;");
            faulty(1, "number a=|" + other + ";");
            faulty(1, "number a=1|" + other + ";");
        }
        faulty(1, "store a=|=1;");
        faulty(1, "store a=1;|;");
        fine("helper h=--1;");
        fine("delay d=1of 1;stream s from out to out=1;");
        fine("   store    a   =   1   ;   ");
        fine("helper h=1+2*(3-least(4,5));");
        faulty(1, "|st ore a=1;");
        faulty(2, "helper h=|ab;");
        for (int byteOf : new int[] {0, 9, 10, 13, 31, 33, 127, 128, 160, 255}) {
            faulty(1, "|" + (char) byteOf);
            faulty(1, "store|" + (char) byteOf + "a=1;");
            faulty(1, "store a=1;|" + (char) byteOf);
        }
    }

    private static void keys() {
        says("1", "KEYS: store stream helper number table delay from to out of least.");
        List<String> keys = List.of("store", "stream", "helper", "number", "table", "delay", "from", "to", "out", "of",
            "least");
        for (String key : keys) {
            faulty(1, "store |" + key + "=1;");
            if (!key.equals("least")) faulty(1, "helper h=|" + key + ";");
            if (!key.equals("out")) faulty(1, "stream s from |" + key + " to out=1;");
            String less = key.substring(0, key.length() - 1);
            fine("store " + less + "=1;");
            if (key.length() < 5) fine("store " + key + "s=1;");
        }
        for (String key : List.of("from", "to", "out", "of", "least")) faulty(1, "|" + key + " a=1;");
    }

    private static void namesAndNumbers() {
        says("1", "A NAME is a WORD of 1 to 5 letters that is no KEY; N is a NUMBER of 1 to 5 digits.");
        fine("store a=1;store z=1;store abcde=1;store zzzzz=1;helper h=a+z+abcde+zzzzz;");
        faulty(1, "store |=1;");
        faulty(1, "store |abcdef=1;");
        faulty(1, "store |" + "a".repeat(290) + "=1;");
        faulty(1, "store a=1;helper h=|abcdef;");
        faulty(1, "store a=1;stream s from |abcdef to a=1;");
        StoreStreams x = with("number a=0;number b=9;number c=99999;number d=00000;number e=00007;");
        int[] due = {0, 9, 99999, 0, 7};
        for (int i = 0; i < 5; i++) due("value(" + i + ")", x.value(i), due[i]);
        faulty(1, "number a=|;");
        faulty(1, "number a=|100000;");
        faulty(1, "number a=|000000;");
        faulty(1, "number a=|4294967296;");
        faulty(1, "number a=|18446744073709551617;");
        faulty(1, "helper h=|000001;");
        faulty(1, "table t=|000001:1,2:2;");
        faulty(1, "table t=1:|000001,2:2;");
        faulty(1, "delay d=|000001 of 1;");
    }

    private static void sixteenThings() {
        says("1", "text: { THING ; }, 16 THINGS at most.");
        fine("");
        fine(" ");
        fine("store a=1;");
        fine(numbers(15));
        fine(numbers(16));
        fine(numbers(16) + "  ");
        faulty(1, numbers(16) + "|store z=1;");
        faulty(1, numbers(16) + "|;");
        faulty(1, "store a=1|");
        faulty(1, "store a=1 |store b=1;");
        faulty(1, "|;");
        StoreStreams x = with(numbers(16));
        due("thing(15, 0)", x.thing(15, 0), 5);
        due("thing(16, 0)", x.thing(16, 0), BAD);
        due("named(p)", x.named(16), 15);
    }

    /** With a TOKEN left out or doubled, the next one can't stand where it stands then. */
    private static void eachToken(String form) {
        String[] tokens = form.split(" ");
        fine(form);
        for (int k = 0; k < tokens.length; k++) {
            StringBuilder without = new StringBuilder();
            StringBuilder doubled = new StringBuilder();
            for (int j = 0; j < tokens.length; j++) {
                if (j != k) without.append(j == k + 1 ? "|" : "").append(tokens[j]).append(' ');
                doubled.append(tokens[j]).append(j == k ? " |" + tokens[j] : "").append(' ');
            }
            if (k == tokens.length - 1) without.append('|');
            faulty(1, without.toString());
            faulty(1, doubled.toString());
        }
    }

    private static void formsOfThings() {
        says("1", "THING: store NAME = N | number NAME = N | helper NAME = E | stream NAME from END to END = E | table NAME = "
            + "N : N { , N : N } (2 to 6 corners) | delay NAME = N of E (N 1 to 9).");
        eachToken("store a = 1 ;");
        eachToken("number a = 1 ;");
        eachToken("helper a = 1 ;");
        eachToken("stream a from out to out = 1 ;");
        eachToken("table a = 1 : 5 , 2 : 6 ;");
        eachToken("delay a = 1 of 5 ;");
        faulty(1, "table t=1:1|;");
        fine("table t=1:1,2:2;");
        fine("table t=0:0,1:1,2:2,3:3,4:4,99999:99999;");
        faulty(1, "table t=0:0,1:1,2:2,3:3,4:4,5:5|,6:6;");
        faulty(1, "delay d=|0 of 1;");
        fine("delay d=1 of 1;delay e=9 of 1;delay f=00009 of 1;");
        faulty(1, "delay d=|10 of 1;");
        faulty(1, "store a=|-1;");
        faulty(1, "number a=|b;");
        faulty(1, "store a=1|+1;");
        for (String kind : List.of("store", "number", "helper", "table", "delay")) faulty(1, kind + " a|;");
        faulty(1, "stream a|;");
        faulty(1, "stream a from out to out|;");
        faulty(1, "table t=1:1,2|;");
        faulty(1, "table t=1:1,2|,3:3;");
        fine("delay d=1 of 1<2;stream s from out to out=1<2;helper h=1<2;");
        fine("delay d=1 of ((((1))));stream s from out to out=((((1))));helper h=((((1))));");
        faulty(1, "delay d=1 of ((((|(1)))));");
        faulty(1, "stream s from out to out=((((|(1)))));");
        faulty(1, "helper h=((((|(1)))));");
    }

    private static void ends() {
        says("1", "END: NAME | out.");
        fine("store a=1;stream s from a to out=1;stream r from out to a=1;");
        faulty(1, "stream s from |1 to out=1;");
        faulty(1, "stream s from out to |(=1;");
        faulty(1, "stream s from |to out=1;");
        faulty(1, "stream s from out to |of=1;");
    }

    private static void wholes() {
        says("1", "E: SUM, perhaps one of < = and a SUM.");
        fine("helper h=1;helper i=1<2;helper j=1=2;helper k=1+2<3*4;");
        faulty(1, "helper h=1<2|<3;");
        faulty(1, "helper h=1=2|=3;");
        faulty(1, "helper h=1<2|=3;");
        faulty(1, "helper h=1=2|<3;");
        faulty(1, "helper h=1<|;");
        faulty(1, "helper h=|<1;");
        faulty(1, "helper h=1<|=2;");
        faulty(1, "helper h=1|>2;");
        fine("helper h=(1<2)=(3<4);");
        worth("1+2<4", 1);
        worth("3<1+2", 0);
        worth("2*2=2+2", 1);
    }

    private static void sums() {
        says("1", "SUM: TERM { + or - TERM }.");
        worth("5", 5);
        worth("5-4-3", -2);
        worth("5-4+3", 4);
        worth("1+" + "1+".repeat(50) + "1", 52);
        faulty(1, "helper h=|+1;");
        faulty(1, "helper h=1+|;");
        faulty(1, "helper h=1+|+1;");
        faulty(1, "helper h=1 |1;");
    }

    private static void terms() {
        says("1", "TERM: ONE { * or / ONE }.");
        worth("100/7*2", 28);
        worth("2*7/4", 3);
        worth("2+3*4", 14);
        worth("2*3+4", 10);
        worth("-2*3", -6);
        faulty(1, "helper h=|*1;");
        faulty(1, "helper h=1*|;");
        faulty(1, "helper h=1*|/1;");
        worth("6/-2", -3);
    }

    private static void ones() {
        says("1", "ONE: N | NAME (of a TABLE: and then [ E ]) | - ONE | ( E ) | least ( E , E ).");
        fine("store a=1;table t=0:0,1:1;helper h=0+a-t[a<1]*-1/(2=2)+least(1<2,a=a);");
        faulty(1, "table t=0:0,1:1;helper h=t|;");
        faulty(1, "table t=0:0,1:1;helper h=t|+1;");
        faulty(1, "table t=0:0,1:1;helper h=t|(1);");
        faulty(1, "table t=0:0,1:1;helper h=t[|];");
        faulty(1, "table t=0:0,1:1;helper h=t[1|;");
        faulty(1, "table t=0:0,1:1;helper h=t[1|);");
        faulty(1, "table t=0:0,1:1;helper h=t[1|,1];");
        faulty(1, "store a=1;helper h=a|[1];");
        faulty(1, "helper h=|[1];");
        faulty(1, "helper h=-|;");
        faulty(1, "helper h=-|*1;");
        faulty(1, "helper h=(|);");
        faulty(1, "helper h=(1|;");
        faulty(1, "helper h=(1|];");
        faulty(1, "helper h=1|);");
        faulty(1, "helper h=(1|,2);");
        faulty(1, "helper h=least|;");
        faulty(1, "helper h=least|[1,2];");
        faulty(1, "helper h=least(|);");
        faulty(1, "helper h=least(1|);");
        faulty(1, "helper h=least(1,|);");
        faulty(1, "helper h=least(1,2|;");
        faulty(1, "helper h=least(1,2|,3);");
        faulty(1, "helper h=1|least(1,2);");
        faulty(1, "helper h=|;");
    }

    private static void fourOpen() {
        says("1", "At most 4 of - (ahead of a ONE, till that ends), ( , [ and least (the ( behind is a part; till its ) ) are "
            + "open within one another.");
        fine("helper h=----1;");
        faulty(1, "helper h=----|-1;");
        fine("helper h=((((1))));");
        faulty(1, "helper h=((((|(1)))));");
        fine("helper h=least(least(least(least(1,1),1),1),1);");
        faulty(1, "helper h=least(least(least(least(|least(1,1),1),1),1),1);");
        fine("helper h=least(1,least(1,least(1,least(1,1))));");
        faulty(1, "helper h=least(1,least(1,least(1,least(1,|least(1,1)))));");
        String table = "table t=0:0,1:1;";
        fine(table + "helper h=t[t[t[t[1]]]];");
        faulty(1, table + "helper h=t[t[t[t[t|[1]]]]];");
        fine(table + "helper h=-(t[least(1,1)]);");
        faulty(1, table + "helper h=-(t[least(|-1,1)]);");
        faulty(1, table + "helper h=-(t[least(1,|(1))]);");
        faulty(1, table + "helper h=-(t[least(1,t|[1])]);");
        faulty(1, table + "helper h=-(t[least(1,|least(1,1))]);");
        fine("helper h=----1+----1*----1<----1;");
        fine("helper h=----1-----1;");
        faulty(1, "helper h=----1-----|-1;");
        fine("helper h=(((-1)+-1)+-1)+-1;");
        fine("helper h=((((1)+(1))+((1)))*((1)));");
        fine("helper h=least((((1))),(((1))));");
        fine(table + "helper h=(t[1]+t[-1])-(-t[1]);");
        fine("helper h=-(((1)))+((((1))));");
        faulty(1, "helper h=-(((1+|(1))));");
        faulty(1, "helper h=-(((|-1)));");
        StoreStreams x = with("helper h=----9-----8;");
        due("value(0)", x.value(0), 1);
    }

    private static void firstFault() {
        says("1", "THE FAULT is at the first TOKEN from the left that is wrong, by kind:");
        faulty(1, "store |abcdef=x;");
        faulty(2, "store a=1;number |a=x;");
        faulty(2, "helper h=|x+100000;");
        faulty(1, "helper h=|100000+x;");
        faulty(2, "stream s from |q to abcdef=1;");
        faulty(1, "stream s from |abcdef to q=1;");
        faulty(3, "number n=1;stream s from |n to q=1;");
        faulty(2, "number n=1;stream s from |q to n=1;");
        faulty(3, "table t=5:1,|5:100000;");
        faulty(1, "table t=5:|100000,5:1;");
        faulty(3, "table t=5:1,|4;");
        faulty(1, "store a=1|,store a=1;");
        faulty(1, "helper h=((((|(x)))));");
        faulty(2, "helper h=((((|x(");
        faulty(2, "store a=1;store |a");
        faulty(1, "|?store a=1;");
    }

    private static void faultsThatCannotStand() {
        says("1", "1 it can't stand there (also a WORD that is too long for a NAME, a NUMBER that is too long or out of its "
            + "bounds, the KEY of the 17th THING, the , ahead of a seventh corner, the fifth that would be open; the end, if "
            + "more must come),");
        faulty(1, "store a=1;|a=1;");
        faulty(1, "store |store=1;");
        faulty(1, "number n=1;helper h=n |n;");
        faulty(1, "store |waters=1;");
        faulty(1, "|waters a=1;");
        faulty(1, "helper h=1+|waters;");
        faulty(1, "stream s from out to |waters=1;");
        faulty(1, "number n=|123456;");
        faulty(1, "helper h=1-|123456;");
        faulty(1, "delay d=|0 of 1;");
        faulty(1, "delay d=|00010 of 1;");
        for (String key : List.of("store", "number", "helper", "stream", "table", "delay")) {
            faulty(1, numbers(16) + "|" + key + " z=1;");
        }
        faulty(1, "table t=0:0,1:1,2:2,3:3,4:4,5:5|,");
        faulty(1, "table t=0:0,1:1,2:2,3:3,4:4,5:5|,5:5;");
        faulty(1, "helper h=((((|-1))));");
        String all = "stream s from out to out=-least((1),2)<3;";
        String tokens = "stream |s| from| out| to| out|=|-|least|(|(|1|)|,|2|)|<|3|;";
        StringBuilder ahead = new StringBuilder();
        for (String token : tokens.split("\\|")) {
            if (ahead.length() > 0) {
                faulty(1, ahead + "|");
                faulty(1, ahead + "   |");
            }
            ahead.append(token);
        }
        due("all of it", Check.read(new StoreStreams(), all), 1);
        faulty(1, "table t=0:0,1:1;helper h=t|");
        faulty(1, "table t=0:0,1:1;helper h=t[|");
        faulty(1, "table t=0:0,1:1;helper h=t[1|");
        faulty(1, "table t=|");
        faulty(1, "table t=0|");
        faulty(1, "table t=0:|");
        faulty(1, "table t=0:0|");
        faulty(1, "table t=0:0,|");
        faulty(1, "delay d=1|");
        faulty(1, "delay d=1 of|");
        faulty(1, "store a=1;store|");
    }

    private static void faultsOfNames() {
        says("1", "2 a NAME of a new THING that one ahead has, or a NAME in E or END that no THING ahead has,");
        for (String form : List.of("store a=1;", "number a=1;", "helper a=1;", "stream a from out to out=1;",
            "table a=0:0,1:1;", "delay a=1 of 1;")) {
            faulty(2, "number a=1;" + form.replaceFirst(" a", " |a"));
            faulty(2, form + "number |a=1;");
        }
        faulty(2, "store abcde=1;store |abcde=1;");
        faulty(2, "store a=1;store b=1;store c=1;store |b=1;");
        faulty(2, numbers(15) + "number |o=1;");
        fine("store abcde=1;store abcd=1;store abcdf=1;store ab=1;store ba=1;");
        faulty(2, "helper h=|h;");
        faulty(2, "helper h=|i;helper i=1;");
        faulty(2, "delay d=1 of |d;");
        faulty(2, "stream s from out to out=|s;");
        faulty(2, "stream s from |s to out=1;");
        faulty(2, "stream s from |a to out=1;store a=1;");
        faulty(2, "store a=1;stream s from a to |b=1;");
        faulty(2, "table t=0:0,1:1;helper h=t[|u];");
        faulty(2, "helper h=least(1,|u);");
        faulty(2, "helper h=(-|u);");
        faulty(2, "number n=1;helper h=n<|u;");
        StoreStreams x = with("store gone=1;");
        due("a THING of an earlier text is not ahead", Check.read(x, "helper h=gone;"), -102);
        due("fault(1)", x.fault(1), 9);
        due("the text ahead stays", x.named(Check.name("gone")), 0);
    }

    private static void faultsOfEndsAndCorners() {
        says("1", "3 an END that is no STORE, a first N of a corner that isn't above that of the corner ahead.");
        for (String form : List.of("number a=1;", "helper a=1;", "stream a from out to out=1;", "table a=0:0,1:1;",
            "delay a=1 of 1;")) {
            faulty(3, form + "stream s from |a to out=1;");
            faulty(3, form + "stream s from out to |a=1;");
        }
        faulty(3, "table t=5:1,|5:2;");
        faulty(3, "table t=5:1,|4:2;");
        faulty(3, "table t=5:1,|0:2;");
        faulty(3, "table t=5:1,6:1,|6:1;");
        faulty(3, "table t=1:1,2:1,3:1,4:1,5:1,|5:1;");
        faulty(3, "table t=99999:1,|99999:1;");
        faulty(3, "table t=9:1,|00009:1;");
        fine("table t=5:9,6:9,7:0;");
        fine("table t=0:1,1:1;table u=99998:1,99999:1;");
        fine("table t=5:1,6:1;table u=0:0,1:1;");
    }

    private static void endsMayBeOne() {
        says("1", "(The two ENDS may be one; both may be out.)");
        StoreStreams x = with("store a=5;stream s from a to a=9;stream r from out to out=3;");
        due("thing(1, 2)", x.thing(1, 2), 0);
        due("thing(1, 3)", x.thing(1, 3), 0);
        due("thing(2, 2)", x.thing(2, 2), -9);
        due("thing(2, 3)", x.thing(2, 3), -9);
        due("flow(1, 0)", x.flow(1, 0), 5);
        x.run(1);
        due("value(0): what goes comes back", x.value(0), 5);
        due("sum(2)", x.sum(2), 3);
        due("sum(3)", x.sum(3), 3);
        due("moves(1)", x.moves(1), 1);
        due("moves(2)", x.moves(2), 0);
    }
}
