/** The example of README.md, line by line, with the answers that it tells. */
public final class ReadmeTest {
    public static void main(String[] args) {
        Check check = new Check();
        Tree x = new Tree(96);
        int directory = x.make(0, 7, true);
        check.due("make(0, 7, true)", directory, 1);
        int file = x.make(directory, 1, false);
        check.due("make(directory, 1, false)", file, 2);
        check.due("feed(8, 72623859790382856L)", x.feed(8, 72623859790382856L), 8);
        check.due("write(file, 0)", x.write(file, 0), 8);
        check.due("read(file, 0)", x.read(file, 0), 72623859790382856L);
        check.due("find(directory, 1)", x.find(directory, 1), 2);
        check.due("find(directory, 9)", x.find(directory, 9), -1);
        check.due("commit()", x.commit(), 6);
        check.due("remove(directory, 1)", x.remove(directory, 1), 0);
        check.due("look(3)", x.look(3), 3);
        check.due("drop()", x.drop(), 3);
        check.due("find(directory, 1) again", x.find(directory, 1), 2);
        check.end();
    }
}
