/** Promise 4: forms that are altered while they are under way. */
public final class AlteredFormTest {
  public static void main(String[] args) {
    Talk t = new Talk();
    t.does("(defun run (form) (setq f form) (condition-case e (eval f) (error (if (eq (cdr e) f) (car e) e))))");
    // what is altered counts from there on
    t.is("(run (list 'progn 1 '(setcdr (cdr (cdr f)) '(7)) 3))", "7");
    t.is("(run (list 'progn 1 '(setcdr (cdr (cdr f)) 5) 3))", "5");
    t.is("(run (list 'list 1 '(progn (setcdr (cdr (cdr f)) '(8 9)) 2) 3))", "(1 2 8 9)");
    t.is("(run (list 'list 1 '(progn (setcdr f nil) 2) 3))", "(1 2 3)");
    t.is("(run (list 'list 1 '(progn (setcar f 'vector) 2) 3))", "(1 2 3)");
    t.is("(run (list 'and 1 '(setcdr (cdr (cdr f)) 'x) 3))", "x");
    t.is("(run (list 'or '(progn (setcdr (cdr f) '(nil 4)) nil) 3))", "4");
    // setq sets the y that it came to ahead of e
    t.is("(run (list 'setq 'a '(progn (setcar (cdr f) 'b) 1)))", "1");
    t.is("(list a (boundp 'b))", "(1 nil)");
    t.is("(run (list 'setq 'a '(progn (setcar (cdr (cdr (cdr f))) 'b) 1) 'c 2))", "2");
    t.is("(list b (boundp 'c))", "(2 nil)");
    t.is("(run (list 'setq 'a '(progn (setcar (cdr (cdr (cdr f))) 5) 6) 'c 2))", "bad-form");
    t.is("a", "6");
    t.is("(run (list 'setq 'a '(progn (setcdr (cdr (cdr (cdr f))) nil) 7) 'c 2))", "bad-form");
    t.is("a", "7");
    t.is("(run (list 'setq 'a '(progn (setcdr (cdr (cdr f)) nil) 8) 'c 2))", "8");
    // if
    t.is("(run (list 'if '(progn (setcdr (cdr f) nil) t) 1 2))", "bad-form");
    t.is("(run (list 'if '(progn (setcdr (cdr f) nil) nil) 1 2))", "bad-form");
    t.is("(run (list 'if '(progn (setcdr (cdr f) '(5)) nil) 1 2))", "nil");
    t.is("(run (list 'if '(progn (setcdr (cdr f) '(5)) t) 1 2))", "5");
    // cond looks at a clause again when it comes to it
    t.is("(run (list 'cond '((progn (setcar (cdr (cdr f)) 5) nil)) '(1)))", "bad-form");
    t.is("(run (list 'cond '((progn (setcar (cdr (cdr f)) nil) nil)) '(1)))", "bad-form");
    t.is("(run (list 'cond '((progn (setcdr (cdr f) nil) nil)) '(1)))", "nil");
    t.is("(run (list 'cond '((progn (setcar (cdr (cdr f)) '(9)) nil)) '(1)))", "9");
    t.is("(run (list 'cond (list '(setcdr (car (cdr f)) '(6)) 4)))", "6");
    t.is("(run (list 'cond (list '(progn (setcdr (car (cdr f)) 6) 3) 4)))", "3");
    // while takes its e from the cons that stood behind while
    t.is("(let ((n 0)) (run (list 'while '(< n 3) '(setcdr f '(nil)) '(setq n (+ n 1)))) n)", "3");
    t.is("(let ((n 0)) (run (list 'while '(< n 3) '(setcar (cdr f) nil) '(setq n (+ n 1)))) n)", "1");
    // let
    t.is("(run (list 'let (list '(a (setcar (cdr (car (cdr f))) 5)) 'b) 'a))", "bad-form");
    t.is("(run (list 'let (list '(a (setcar (car (car (cdr f))) 'b)) 'b) 'a))", "b");
    t.is("(run (list 'let (list '(a (setcdr (cdr f) '(77))) 'b) 'a))", "77");
    t.is("(run (list 'let (list '(a (setcdr (car (cdr f)) (car (cdr f))))) 1))", "bad-form");
    Talk.same("let evaluated twenty", t.box.about(0) > 100 ? 1 : 0, 1);
    t.is("(let ((n 0)) (run (list 'let (list '(a (progn (setq n (+ n 1)) (setcdr (car (cdr f)) (car (cdr f)))))) 1)) n)", "20");
    t.is("(let ((n 0)) (run (list 'let* (list '(a (progn (setq n (+ n 1)) (setcdr (car (cdr f)) (car (cdr f)))))) 1)) n)", "20");
    // catch, unwind-protect, a body
    t.is("(run (list 'catch '(progn (setcdr (cdr f) '(4 5)) 'tag) 1))", "5");
    t.is("(run (list 'unwind-protect '(progn (setcdr (cdr f) '((setq done 'yes))) 1) '(setq done 'no)))", "1");
    t.is("done", "yes");
    t.is("(run (list (list 'lambda '(x) '(setcdr (cdr (cdr (car f))) '(3)) 'x) 1))", "3");
    // condition-case: the y come to first, clauses looked at again
    t.is("(run (list 'condition-case 'y '(progn (setcar (cdr f) 'z) (car 5)) '(error y)))", "(wrong-type . 5)");
    t.is("(run (list 'condition-case 'y '(progn (setcar (cdr (cdr (cdr f))) 5) (car 5)) '(error y)))", "bad-form");
    t.is("(run (list 'condition-case 'y '(progn (setcar (cdr (cdr (cdr f))) 5) 6) '(error y)))", "6");
    t.is("(run (list 'condition-case 'y '(progn (setcdr (cdr (cdr f)) nil) (car 5)) '(error y)))", "(wrong-type . 5)");
    t.is("(run (list 'condition-case 'y '(progn (setcdr (cdr (cdr (cdr f))) (cdr (cdr (cdr f)))) (car 5)) '(arith y)))", "bad-form");
    t.is("(run (list 'condition-case 'y '(progn (setcdr (car (car (cdr (cdr (cdr f))))) (car (car (cdr (cdr (cdr f)))))) (car 5)) '((arith) y) '(error 'here)))",
        "here");
    // a form that is made to go round is gone along until the fuel ends
    t.fails("(setq f (list 'list '(setcdr (cdr f) (cdr f)))) (eval f)", "fuel");
    // the lambda is looked at when it is called
    t.is("(run (list (list 'lambda '(x) 'x) '(progn (setcdr (car f) nil) 1)))", "(bad-form lambda)");
    t.is("(run (list (list 'lambda '(x) 'x) '(progn (setcar (cdr (car f)) 5) 1)))", "(bad-form . 5)");
    Talk.end();
  }
}
