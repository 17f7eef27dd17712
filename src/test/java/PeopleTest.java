public final class PeopleTest {
    public static void main(String[] args) {
        Due due = new Due("PeopleTest");
        OpenOrTake x = new OpenOrTake();
        due.is("a new object has nobody", x.count(0), 0);
        due.is("the first person", x.person(0), 0);
        due.end();
    }
}
