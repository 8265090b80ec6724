/** Promises 4 and 5: the FAULTS of a TABLE, each at its place. */
public final class FaultTest {
    private static final String T = "table 3;";
    private static final String G = "guest a at 0 wet 1 hot 2;";

    public static void main(String[] args) {
        noSuchText();
        words();
        glued();
        numbers();
        names();
        wordsElsewhere();
        open();
        tooMany();
        theFirstAlongTheText();
        latest();
        Check.close("FaultTest");
    }

    private static void noSuchText() {
        Check.dueTableFault("", 1, 0);
        Check.dueTableFault("  \n ", 1, 4);
        Check.dueTableFault(";", 1, 0);
        Check.dueTableFault(" guest a", 1, 1);
        Check.dueTableFault("tabl 3;", 1, 0);
        Check.dueTableFault("tables 3;", 1, 0);
        Check.dueTableFault("Table 3;", 1, 0);
        Check.dueTableFault("table", 1, 5);
        Check.dueTableFault("table ", 1, 6);
        Check.dueTableFault("table x", 1, 6);
        Check.dueTableFault("table -3;", 1, 6);
        Check.dueTableFault("table 3", 1, 7);
        Check.dueTableFault("table 3  ", 1, 9);
        Check.dueTableFault("table 3 4;", 1, 8);
        Check.dueTableFault("table 3;;", 1, 8);
        Check.dueTableFault("table 3;\t", 1, 8);
        Check.dueTableFault("table 3;\u00ff", 1, 8);
        Check.dueTableFault("table 3;\0", 1, 8);
        Check.dueTableFault("table 3;table 3;", 1, 8);
        Check.dueTableFault(T + "toast;", 1, 13);
        Check.dueTableFault(T + "hoop x;", 1, 13);
        Check.dueTableFault(T + "what 1;", 1, 8);
        Check.dueTableFault(T + "all;", 1, 8);
        Check.dueTableFault(T + "7;", 1, 8);
    }

    private static void words() {
        Check.dueTableFault(T + "guest a 0", 1, 16);
        Check.dueTableFault(T + "guest a in 0", 1, 16);
        Check.dueTableFault(T + "guest a at 0 hot 1", 1, 21);
        Check.dueTableFault(T + "guest a at 0 wet 1 wet 1", 1, 27);
        Check.dueTableFault(T + "guest a at 0 wet 1 hot 1", 1, 32);
        Check.dueTableFault(T + "guest a at 0 wet 1 hot 1 hoop 1;", 1, 33);
        Check.dueTableFault(T + "guest a at x", 1, 19);
    }

    private static void glued() {
        Check.dueTableFault("table3;", 1, 5);
        Check.dueTableFault(T + "guest a1 at 0 wet 1 hot 1;", 1, 15);
        Check.dueTableFault(T + "guest a at0 wet 1 hot 1;", 1, 18);
        Check.dueTableFault(T + "guest a at 0wet 1 hot 1;", 1, 20);
        Check.dueTableFault(T + "guest a at 0 wet10 hot 1;", 1, 24);
        Check.dueTableFault(T + "swells1;", 1, 14);
        Check.dueTableFault(T + "starts 1=1and 2=2;", 1, 18);
        Check.dueTableFault(T + "starts not1=1;", 1, 18);
    }

    private static void numbers() {
        Check.dueTableFault("table 2;", 2, 6);
        Check.dueTableFault("table 10;", 2, 6);
        Check.dueTableFault("table 9999;", 2, 6);
        Check.dueTableFault("table 0;", 2, 6);
        Check.dueTableFault("table 12345;", 1, 10);
        Check.dueTableFault("table 00003;", 1, 10);
        Check.dueTableFault(T + "guest a at 3", 2, 19);
        Check.dueTableFault(T + G + "guest b at 0", 2, 44);
        Check.dueTableFault(T + "guest a at 0 wet 10", 2, 25);
        Check.dueTableFault(T + "guest a at 0 wet 9 hot 10", 2, 31);
        Check.dueTableFault(T + "hoop 3;", 2, 13);
        Check.dueTableFault(T + "hoop 2;hoop 2;", 2, 20);
        Check.dueTableFault(T + "hoop 0;hoop 1;hoop 2;hoop 0;", 2, 34);
        Check.dueTableFault(T + "toast 101;", 2, 14);
        Check.dueTableFault(T + "toast 10000;", 1, 18);
        Check.dueTableFault(T + "swells 12345;", 1, 19);
        Check.dueTableFault(T + "swells 1+(00001);", 1, 22);
        Check.dueTableFault(T + "swells 1+12345;", 1, 21);
        Check.dueTableFault(T + "swells 1*12345;", 1, 21);
        Check.dueTableFault(T + "starts 1=12345;", 1, 21);
        Check.dueTableFault(T + "starts 1=1 or 12345=1;", 1, 26);
        Check.dueTableFault(T + "swells 1 12345;", 1, 17);
        Check.dueTableFault(T + "12345;", 1, 8);
    }

    private static void names() {
        Check.dueTableFault(T + "guest ", 1, 14);
        Check.dueTableFault(T + "guest 1", 1, 14);
        Check.dueTableFault(T + "guest A", 1, 14);
        Check.dueTableFault(T + "guest aB", 1, 15);
        Check.dueTableFault(T + "guest abcdefg at 0", 1, 20);
        Check.dueTableFault(T + "guest abcdefghij at 0", 1, 20);
        String own = "table guest at wet hot hoop swells starts spills toast swell minute left right hooped load size "
                + "number seat beside far or and not all min max";
        for (String word : own.split(" ")) {
            Check.dueTableFault(T + "guest " + word + " at 0 wet 1 hot 1;", 1, 14);
        }
        for (String word : "first last often total most least a tabl hots mins".split(" ")) {
            Check.dueTable(T + "guest " + word + " at 0 wet 1 hot 1;", 2);
        }
        Check.dueTableFault(T + G + "guest a at 1 wet 1 hot 1;", 3, 39);
        Check.dueTableFault(T + "guest abcdef at 0 wet 1 hot 1;guest abcdef", 3, 44);
        Check.dueTableFault(T + "guest abcdef at 0 wet 1 hot 1;guest abcdefg", 1, 50);
        Check.dueTableFault(T + G + "guest b at 1 wet 1 hot 1;guest a", 3, 64);
    }

    private static void wordsElsewhere() {
        String everywhere = "wet hot swell minute 7 (7) min(1,2) max(wet,hot)";
        for (String rule : new String[] {"swells %;", "spills %;", "starts %>1;"}) {
            for (String part : everywhere.split(" ")) {
                Check.dueTable(T + rule.replace("%", part), 2);
            }
        }
        partsOf("swells %;", "left right hooped", "load size number seat beside far all not or x guest");
        partsOf("starts %>1;", "load", "left right hooped size number seat beside far or x guest");
        partsOf("spills %;", "size", "left right hooped load number seat beside far all not or x guest");
        Check.dueTable(T + "starts all;", 2);
        Check.dueTable(T + "starts not all;", 2);
        Check.dueTable(T + "starts [all or 1<2]and wet=1;", 2);
        Check.dueTableFault(T + "starts wet;", 1, 18);
        Check.dueTableFault(T + "starts wet>;", 1, 19);
        Check.dueTableFault(T + "starts wet<=1;", 1, 19);
        Check.dueTableFault(T + "starts wet>1>1;", 1, 20);
        Check.dueTableFault(T + "starts (wet>1);", 1, 19);
        Check.dueTableFault(T + "starts [wet];", 1, 19);
        Check.dueTableFault(T + "starts all all;", 1, 19);
        Check.dueTableFault(T + "starts all and;", 1, 22);
        Check.dueTableFault(T + "starts [all;", 1, 19);
        Check.dueTableFault(T + "swells;", 1, 14);
        Check.dueTableFault(T + "swells -1;", 1, 15);
        Check.dueTableFault(T + "swells 1+;", 1, 17);
        Check.dueTableFault(T + "swells 1**2;", 1, 17);
        Check.dueTableFault(T + "swells (1;", 1, 17);
        Check.dueTableFault(T + "swells 1);", 1, 16);
        Check.dueTableFault(T + "swells ();", 1, 16);
        Check.dueTableFault(T + "swells min 1,2);", 1, 19);
        Check.dueTableFault(T + "swells min(1);", 1, 20);
        Check.dueTableFault(T + "swells min(1,2,3);", 1, 22);
        Check.dueTableFault(T + "swells [1];", 1, 15);
        Check.dueTableFault(T + "swells 1>2;", 1, 16);
    }

    private static void partsOf(String rule, String good, String bad) {
        for (String part : good.split(" ")) {
            Check.dueTable(T + rule.replace("%", part), 2);
        }
        for (String part : bad.split(" ")) {
            Check.dueTableFault(T + rule.replace("%", part), 1, 15);
        }
    }

    private static void open() {
        Check.dueTable(T + "swells ((((((1))))));", 2);
        Check.dueTableFault(T + "swells (((((((1)))))));", 4, 21);
        Check.dueTableFault(T + "swells (((((( (", 4, 22);
        Check.dueTable(T + "swells ((((((1))))))+((((((1))))));", 2);
        Check.dueTable(T + "swells (((((min(1,2))))));", 2);
        Check.dueTableFault(T + "swells ((((((min(1,2)))))));", 4, 24);
        Check.dueTableFault(T + "swells ((((((min 1", 1, 25);
        Check.dueTable(T + "starts not not not not not not all;", 2);
        Check.dueTableFault(T + "starts not not not not not not not all;", 4, 39);
        Check.dueTable(T + "starts not not not not not not all and not all;", 2);
        Check.dueTable(T + "starts [[[[[[all]]]]]]or[all];", 2);
        Check.dueTableFault(T + "starts [[[[[[[all]]]]]]];", 4, 21);
        Check.dueTable(T + "starts [not[not(max(1,2))>1]];", 2);
        Check.dueTableFault(T + "starts [not[not[not(1)=1]]];", 4, 27);
        Check.dueTableFault(T + "starts not[not[not[(1)=1]]];", 4, 27);
        Check.dueTableFault(T + "starts not[not[not[all and(1)=1", 4, 34);
        Check.dueTableFault(T + "starts not[not[not 1=(2)", 1, 32);
        Check.dueTableFault(T + "starts all or not not not not not not not all;", 4, 46);
        Check.dueTableFault(T + "starts all and [[[[[[[all", 4, 29);
        Check.dueTableFault(T + "swells 1+(((((((1", 4, 23);
        Check.dueTableFault(T + "swells 1*(((((((1", 4, 23);
        Check.dueTableFault(T + "starts 1=(((((((1", 4, 23);
        Check.dueTable(T + "swells " + "min(1,2)+".repeat(8) + "1;", 2);
        Check.dueTable(T + "starts " + "[all]and ".repeat(8) + "all;", 2);
        Check.dueTable(T + "starts " + "not all and ".repeat(8) + "all;", 2);
        Check.dueTableFault(T + "swells ((((((1(", 1, 22);
        Check.dueTableFault(T + "starts [[[[[[1[", 1, 22);
    }

    private static void tooMany() {
        Check.dueTableFault(T + "swells 1;swells 2;", 5, 17);
        Check.dueTableFault(T + "starts all;  starts all;", 5, 21);
        Check.dueTableFault(T + "spills 1;\nspills", 5, 18);
        StringBuilder eight = new StringBuilder("table 9;");
        for (int g = 0; g < 8; g++) {
            if (g == 7) {
                Check.dueTableFault(eight + " guest", 5, eight.length() + 1);
            }
            eight.append("guest ").append((char) ('a' + g)).append(" at ").append(g).append(" wet 1 hot 1;");
        }
        Check.dueTableFault(eight.toString(), 5, eight.length() - "guest h at 7 wet 1 hot 1;".length());
        String sixty = T + "toast 1;".repeat(59);
        Check.dueTable(sixty + " \n", 60);
        Check.dueTableFault(sixty + "toast 1;", 5, sixty.length());
        Check.dueTableFault(sixty + "  ~", 5, sixty.length() + 2);
        Check.dueTableFault(sixty + ";", 5, sixty.length());
        Check.dueTableFault(sixty + "table 3;", 5, sixty.length());
    }

    private static void theFirstAlongTheText() {
        Check.dueTableFault("table 2 x", 2, 6);
        Check.dueTableFault("table 99 5;", 2, 6);
        Check.dueTableFault("table 5 99;", 1, 8);
        Check.dueTableFault(T + "hoop 7 1;", 2, 13);
        Check.dueTableFault(T + "guest a at 1 wet 99 1", 2, 25);
        Check.dueTableFault(T + G + "guest a x", 3, 39);
        Check.dueTableFault(T + "swells (((((((", 4, 21);
    }

    private static void latest() {
        TalkCoopers x = Check.with(T);
        Check.table(x, "table 2;");
        Check.due("fault(0)", x.fault(0), 2);
        Check.due("fault(1)", x.fault(1), 6);
        Check.due("fault(2)", x.fault(2), -1);
        Check.due("fault(-1)", x.fault(-1), -1);
        Check.table(x, T);
        Check.due("fault(0)", x.fault(0), 0);
        Check.due("fault(1)", x.fault(1), -1);
        Check.ask(x, "total 1 1");
        Check.due("fault(0)", x.fault(0), 1);
        Check.due("fault(1)", x.fault(1), 8);
        Check.hear(x, 1);
        Check.on(x, 1);
        Check.due("fault(1) stays", x.fault(1), 8);
        Check.due("status(1)", x.status(1), 2);
    }
}
