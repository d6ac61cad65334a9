/** The names that the document tells. */
final class Names {
  static final String[] TOLD = ("nil t quote setq if cond while progn and or let let* lambda defun defmacro defvar catch condition-case"
      + " unwind-protect save-excursion macro &optional &rest keymap global-map last-key error circular heap-full too-many-markers"
      + " read-error too-many-symbols too-long fuel depth void-variable void-function bad-form wrong-number-of-args no-catch"
      + " out-of-range wrong-type arith constant too-many-buffers buffer-full end-of-buffer beginning-of-buffer search-failed"
      + " cons car cdr setcar setcdr list nth nthcdr length reverse append memq member assq assoc mapcar eq equal null consp"
      + " symbolp intp stringp + * - / % < > = logand logior shift set symbol-value boundp fset symbol-function symbol-name intern"
      + " funcall apply eval throw signal concat substring string= string< sign string number print buffer set-buffer"
      + " current-buffer buffer-name point point-max goto-char insert delete-region char-after char-before region bolp eolp"
      + " forward-char forward-line beginning-of-line end-of-line search-forward search-backward skip-forward column line marker"
      + " set-marker marker-place marker-moves put-face face undo boundary modified set-modified make-map define-key lookup-key"
      + " use-map split-below split-right other-window delete-window delete-other-windows show-buffer window-start"
      + " set-window-start message").split(" ");

  private Names() {
  }
}
