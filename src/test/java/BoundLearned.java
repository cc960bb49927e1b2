/** Boundary cases of what is LEARNED of a LESSON: promise 7. */
final class BoundLearned {
    private final Sentences document;
    private final Desk desk;

    BoundLearned(Sentences document) {
        this.document = document;
        this.desk = document.desk;
    }

    void all() {
        stretches();
        links();
        order();
        known();
        costs();
    }

    /** A phrase told as it would stand in a text of the book. */
    private void phrase(PhraseRoads roads, int phrase, String want) {
        StringBuilder got = new StringBuilder();
        for (int k = 0; k < 3 && roads.part(phrase, false, k) != -1; k++) {
            got.append(k == 0 ? "" : " ").append((char) ('a' + roads.letter(roads.part(phrase, false, k), 0)));
        }
        got.append('=');
        for (int k = 0; k < 3 && roads.part(phrase, true, k) != -1; k++) {
            got.append((char) ('a' + roads.letter(roads.part(phrase, true, k), 0))).append(' ');
        }
        got.append(roads.phrase(phrase, 2));
        desk.due("phrase " + phrase + " is " + got + ", due is " + want, got.toString().equals(want), true);
    }

    private void learned(String lesson, String... want) {
        PhraseRoads roads = new PhraseRoads();
        desk.right(roads, "learn", lesson, want.length);
        desk.due("phrases of " + lesson, roads.count(1), want.length);
        for (int i = 0; i < want.length && i < roads.count(1); i++) {
            phrase(roads, i, want[i]);
        }
    }

    private void stretches() {
        document.holds(7, "stretches of 1 to 3 W ahead of = and of 1 to 3 W behind it", () -> {
            learned("a=x/0 0", "a=x 10");
            learned("a b=x/0 0;1 0", "a b=x 10");
            learned("a b c=x/0 0;1 0;2 0", "a b c=x 10");
            learned("a b c d=x/0 0;1 0;2 0;3 0");
            learned("a b c=x/0 0;2 0", "a b c=x 15");
            learned("a b c d=x/0 0;3 0");
            learned("a=x y/0 0;0 1", "a=x y 10");
            learned("a=x y z/0 0;0 1;0 2", "a=x y z 10");
            learned("a=w x y z/0 0;0 1;0 2;0 3");
            learned("a=w x y z/0 0;0 3");
            learned("a b c=x y z/0 0;2 2;0 2;2 0", "a b c=x y z 20");
        });
    }

    private void links() {
        document.holds(7, "for which there is some link from the one to the other", () -> {
            learned("a b=x y/1 1", "a b=x y 20", "a b=y 15", "b=x y 15", "b=y 10");
            learned("a b c d e=x/4 0", "c d e=x 20", "d e=x 15", "e=x 10");
            learned("e=a b c d x/0 4", "e=c d x 20", "e=d x 15", "e=x 10");
        });
        document.holds(7, "and none from the one to what is not in the other one, or the other way round", () -> {
            learned("a b=x y/0 0;0 1;1 1", "a b=x y 10");
            learned("a b=x/0 0;1 0", "a b=x 10");
            learned("a=x y/0 0;0 1", "a=x y 10");
            learned("a b=x y z/0 0;0 2;1 1", "a b=x y z 10", "b=y 10");
            learned("a b c=x y/0 0;2 0;1 1", "a b c=x y 10", "b=y 10");
            learned("a b=x y/0 1;1 0", "a=y 10", "a b=x y 10", "b=x 10");
        });
    }

    private void order() {
        document.holds(7, "in the order of the first place ahead of =, of the last one, of the first place behind it, of the last one", () -> {
            learned("a b=x y z/0 1", "a=x y 15", "a=x y z 20", "a=y 10", "a=y z 15",
                    "a b=x y 20", "a b=x y z 25", "a b=y 15", "a b=y z 20");
            learned("a b c=x y z/0 0;1 1;2 2", "a=x 10", "a b=x y 10", "a b c=x y z 10", "b=y 10", "b c=y z 10", "c=z 10");
            learned("a b=x y/0 1;1 0", "a=y 10", "a b=x y 10", "b=x 10");
        });
    }

    private void known() {
        document.holds(7, "if there is one of both already that is not GONE (of this LESSON, too), its COST is 1 less (0 at least), and none comes", () -> {
            PhraseRoads roads = new PhraseRoads();
            Desk.book(roads, "a=x 2;a=y 0;b=x 5");
            for (int cost : new int[] {1, 0, 0}) {
                desk.right(roads, "learn", "a=x/0 0", 0);
                phrase(roads, 0, "a=x " + cost);
            }
            phrase(roads, 1, "a=y 0");
            phrase(roads, 2, "b=x 5");
            desk.due("three still", roads.count(1), 3);
            learned("a a=x x/0 0;1 1", "a=x 9", "a a=x x 10");
            learned("a a a=x x x/0 0;1 1;2 2", "a=x 8", "a a=x x 9", "a a a=x x x 10");
        });
        document.holds(7, "if there is one of both already that is not GONE (of this LESSON, too)", () -> {
            PhraseRoads roads = new PhraseRoads();
            Desk.book(roads, "a=x 2");
            roads.drop(0, true);
            desk.right(roads, "learn", "a a=x x/0 0;1 1", 2);
            phrase(roads, 0, "a=x 2");
            phrase(roads, 1, "a=x 9");
            phrase(roads, 2, "a a=x x 10");
            desk.due("still gone", roads.phrase(0, 3), 1);
            desk.due("what comes is there", roads.phrase(1, 3), 0);
        });
    }

    private void costs() {
        document.holds(7, "else its COST is 10, and 5 for each W of both stretches without a link", () -> {
            learned("a b c=x y z/1 1", "a b=x y 20", "a b=x y z 25", "a b=y 15", "a b=y z 20", "a b c=x y 25", "a b c=x y z 30",
                    "a b c=y 20", "a b c=y z 25", "b=x y 15", "b=x y z 20", "b=y 10", "b=y z 15", "b c=x y 20", "b c=x y z 25",
                    "b c=y 15", "b c=y z 20");
            learned("a b c=x y z/0 0;2 2", "a=x 10", "a=x y 15", "a b=x 15", "a b=x y 20", "a b c=x y z 20", "b c=y z 20", "b c=z 15",
                    "c=y z 15", "c=z 10");
        });
    }
}
