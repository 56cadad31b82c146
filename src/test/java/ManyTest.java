/** Promise 6: many. */
final class ManyTest {
    public static void main(String[] args) {
        Probe probe = new Probe("ManyTest");
        ScriptFront front = new ScriptFront();
        for (int kind = -1; kind < 60; kind++) {
            probe.due("many(" + kind + ") without a tree", front.many(kind), 0);
        }
        String text = "function f(a,b){return a}var c=[1,,'x',/y/],d;for(;;){if(c)break;else continue}x:do{this.z++}while(!d[0]);"
            + "for(c in{k:null})try{throw new c}catch(e){;}switch(c){case d:default:}while(c?d:c,d=-1)f(function(){})";
        probe.due("parse()", Probe.parsed(front, text), "70");
        int sum = 0;
        for (int kind = 0; kind < 50; kind++) {
            int counted = 0;
            for (int k = 0; k < 70; k++) {
                counted += front.node(k, 0) == kind ? 1 : 0;
            }
            probe.due("many(" + kind + ")", front.many(kind), counted);
            sum += front.many(kind);
        }
        probe.due("all kinds", sum, 70);
        int[] kinds = {0, 1, 2, 3, 4, 5, 6, 7, 8, 9, 10, 11, 12, 13, 14, 15, 16, 17, 18, 19, 20, 21, 22, 23};
        int[] due = {1, 4, 1, 2, 1, 2, 1, 1, 1, 1, 1, 1, 1, 1, 1, 2, 1, 1, 1, 1, 1, 6, 2, 2};
        for (int i = 0; i < kinds.length; i++) {
            probe.due("many(" + kinds[i] + ")", front.many(kinds[i]), due[i]);
        }
        int[] others = {-1, 24, 29, 50, Integer.MAX_VALUE, Integer.MIN_VALUE};
        for (int kind : others) {
            probe.due("many(" + kind + ")", front.many(kind), 0);
        }
        Probe.parsed(front, "a(");
        probe.due("many(20) behind a fault", front.many(20), 1);
        Probe.parsed(front, "");
        probe.due("many(0) of the empty text", front.many(0), 1);
        probe.due("many(20) of the empty text", front.many(20), 0);
        probe.end();
    }
}
