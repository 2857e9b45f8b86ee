def S_row (I : Mem → Mem → Prop) : Prop := ∀ (a0 a1 a2 : Int32) (V U : Mem), I V U → ∃ q r, f_X6_row a0 a1 a2 V = some q ∧ f_X7_row a0 a1 a2 U = some r ∧ q.1 = r.1 ∧ I q.2 r.2
def S_set (I : Mem → Mem → Prop) : Prop := ∀ (a0 a1 a2 : Int32) (V U : Mem), I V U → ∃ q r, f_X6_set a0 a1 a2 V = some q ∧ f_X7_set a0 a1 a2 U = some r ∧ q.1 = r.1 ∧ I q.2 r.2
def S_copy (I : Mem → Mem → Prop) : Prop := ∀ (a0 a1 a2 a3 a4 : Int32) (V U : Mem), I V U → ∃ q r, f_X6_copy a0 a1 a2 a3 a4 V = some q ∧ f_X7_copy a0 a1 a2 a3 a4 U = some r ∧ q.1 = r.1 ∧ I q.2 r.2
def S_drop (I : Mem → Mem → Prop) : Prop := ∀ (a0 : Int32) (V U : Mem), I V U → ∃ q r, f_X6_drop a0 V = some q ∧ f_X7_drop a0 U = some r ∧ q.1 = r.1 ∧ I q.2 r.2
def S_feed (I : Mem → Mem → Prop) : Prop := ∀ (a0 : Int32) (V U : Mem), I V U → ∃ q r, f_X6_feed a0 V = some q ∧ f_X7_feed a0 U = some r ∧ q.1 = r.1 ∧ I q.2 r.2
def S_sheet (I : Mem → Mem → Prop) : Prop := ∀ (V U : Mem), I V U → ∃ q r, f_X6_sheet  V = some q ∧ f_X7_sheet  U = some r ∧ q.1 = r.1 ∧ I q.2 r.2
def S_fault (I : Mem → Mem → Prop) : Prop := ∀ (V U : Mem), I V U → ∃ q r, f_X6_fault  V = some q ∧ f_X7_fault  U = some r ∧ q.1 = r.1 ∧ I q.2 r.2
def S_undo (I : Mem → Mem → Prop) : Prop := ∀ (V U : Mem), I V U → ∃ q r, f_X6_undo  V = some q ∧ f_X7_undo  U = some r ∧ q.1 = r.1 ∧ I q.2 r.2
def S_put (I : Mem → Mem → Prop) : Prop := ∀ (a0 a1 a2 a3 : Int32) (V U : Mem), I V U → ∃ q r, f_X6_put a0 a1 a2 a3 V = some q ∧ f_X7_put a0 a1 a2 a3 U = some r ∧ q.1 = r.1 ∧ I q.2 r.2
def S_take (I : Mem → Mem → Prop) : Prop := ∀ (a0 : Int32) (V U : Mem), I V U → ∃ q r, f_X6_take a0 V = some q ∧ f_X7_take a0 U = some r ∧ q.1 = r.1 ∧ I q.2 r.2
def S_move (I : Mem → Mem → Prop) : Prop := ∀ (a0 a1 : Int32) (V U : Mem), I V U → ∃ q r, f_X6_move a0 a1 V = some q ∧ f_X7_move a0 a1 U = some r ∧ q.1 = r.1 ∧ I q.2 r.2
def S_change (I : Mem → Mem → Prop) : Prop := ∀ (a0 a1 a2 a3 : Int32) (V U : Mem), I V U → ∃ q r, f_X6_change a0 a1 a2 a3 V = some q ∧ f_X7_change a0 a1 a2 a3 U = some r ∧ q.1 = r.1 ∧ I q.2 r.2
def S_style (I : Mem → Mem → Prop) : Prop := ∀ (a0 a1 : Int32) (V U : Mem), I V U → ∃ q r, f_X6_style a0 a1 V = some q ∧ f_X7_style a0 a1 U = some r ∧ q.1 = r.1 ∧ I q.2 r.2
def S_paragraph (I : Mem → Mem → Prop) : Prop := ∀ (a0 a1 : Int32) (V U : Mem), I V U → ∃ q r, f_X6_paragraph a0 a1 V = some q ∧ f_X7_paragraph a0 a1 U = some r ∧ q.1 = r.1 ∧ I q.2 r.2
def S_label (I : Mem → Mem → Prop) : Prop := ∀ (a0 a1 a2 : Int32) (V U : Mem), I V U → ∃ q r, f_X6_label a0 a1 a2 V = some q ∧ f_X7_label a0 a1 a2 U = some r ∧ q.1 = r.1 ∧ I q.2 r.2
def S_called (I : Mem → Mem → Prop) : Prop := ∀ (a0 a1 a2 : Int32) (V U : Mem), I V U → ∃ q r, f_X6_called a0 a1 a2 V = some q ∧ f_X7_called a0 a1 a2 U = some r ∧ q.1 = r.1 ∧ I q.2 r.2
def S_span (I : Mem → Mem → Prop) : Prop := ∀ (a0 a1 a2 a3 : Int32) (V U : Mem), I V U → ∃ q r, f_X6_span a0 a1 a2 a3 V = some q ∧ f_X7_span a0 a1 a2 a3 U = some r ∧ q.1 = r.1 ∧ I q.2 r.2
def S_register (I : Mem → Mem → Prop) : Prop := ∀ (a0 : Int32) (V U : Mem), I V U → ∃ q r, f_X6_register a0 V = some q ∧ f_X7_register a0 U = some r ∧ q.1 = r.1 ∧ I q.2 r.2
def S_bears (I : Mem → Mem → Prop) : Prop := ∀ (a0 a1 a2 : Int32) (V U : Mem), I V U → ∃ q r, f_X6_bears a0 a1 a2 V = some q ∧ f_X7_bears a0 a1 a2 U = some r ∧ q.1 = r.1 ∧ I q.2 r.2
def S_changed (I : Mem → Mem → Prop) : Prop := ∀ (a0 : Int32) (V U : Mem), I V U → ∃ q r, f_X6_changed a0 V = some q ∧ f_X7_changed a0 U = some r ∧ q.1 = r.1 ∧ I q.2 r.2
def S_nearest (I : Mem → Mem → Prop) : Prop := ∀ (a0 a1 : Int32) (V U : Mem), I V U → ∃ q r, f_X6_nearest a0 a1 V = some q ∧ f_X7_nearest a0 a1 U = some r ∧ q.1 = r.1 ∧ I q.2 r.2
def S_sets (I : Mem → Mem → Prop) : Prop := ∀ (a0 : Int32) (V U : Mem), I V U → ∃ q r, f_X6_sets a0 V = some q ∧ f_X7_sets a0 U = some r ∧ q.1 = r.1 ∧ I q.2 r.2
def S_deepest (I : Mem → Mem → Prop) : Prop := ∀ (a0 : Int32) (V U : Mem), I V U → ∃ q r, f_X6_deepest a0 V = some q ∧ f_X7_deepest a0 U = some r ∧ q.1 = r.1 ∧ I q.2 r.2
def S_who (I : Mem → Mem → Prop) : Prop := ∀ (a0 a1 a2 a3 a4 : Int32) (V U : Mem), I V U → ∃ q r, f_X6_who a0 a1 a2 a3 a4 V = some q ∧ f_X7_who a0 a1 a2 a3 a4 U = some r ∧ q.1 = r.1 ∧ I q.2 r.2
def S_lost (I : Mem → Mem → Prop) : Prop := ∀ (a0 a1 a2 a3 : Int32) (V U : Mem), I V U → ∃ q r, f_X6_lost a0 a1 a2 a3 V = some q ∧ f_X7_lost a0 a1 a2 a3 U = some r ∧ q.1 = r.1 ∧ I q.2 r.2
def S_drawn (I : Mem → Mem → Prop) : Prop := ∀ (a0 a1 a2 : Int32) (V U : Mem), I V U → ∃ q r, f_X6_drawn a0 a1 a2 V = some q ∧ f_X7_drawn a0 a1 a2 U = some r ∧ q.1 = r.1 ∧ I q.2 r.2
def S_image (I : Mem → Mem → Prop) : Prop := ∀ (a0 : Int32) (V U : Mem), I V U → ∃ q r, f_X6_image a0 V = some q ∧ f_X7_image a0 U = some r ∧ q.1 = r.1 ∧ I q.2 r.2
def S_restore (I : Mem → Mem → Prop) : Prop := ∀ (a0 : Int32) (V U : Mem), I V U → ∃ q r, f_X6_restore a0 V = some q ∧ f_X7_restore a0 U = some r ∧ q.1 = r.1 ∧ I q.2 r.2
def S_kind (I : Mem → Mem → Prop) : Prop := ∀ (a0 : Int32) (V U : Mem), I V U → ∃ q r, f_X6_kind a0 V = some q ∧ f_X7_kind a0 U = some r ∧ q.1 = r.1 ∧ I q.2 r.2
def S_as (I : Mem → Mem → Prop) : Prop := ∀ (a0 a1 : Int32) (V U : Mem), I V U → ∃ q r, f_X6_as a0 a1 V = some q ∧ f_X7_as a0 a1 U = some r ∧ q.1 = r.1 ∧ I q.2 r.2
def S_ask (I : Mem → Mem → Prop) : Prop := ∀ (a0 a1 : Int32) (V U : Mem), I V U → ∃ q r, f_X6_ask a0 a1 V = some q ∧ f_X7_ask a0 a1 U = some r ∧ q.1 = r.1 ∧ I q.2 r.2
def S_trace (I : Mem → Mem → Prop) : Prop := ∀ (a0 : Int32) (V U : Mem), I V U → ∃ q r, f_X6_trace a0 V = some q ∧ f_X7_trace a0 U = some r ∧ q.1 = r.1 ∧ I q.2 r.2
def S_count (I : Mem → Mem → Prop) : Prop := ∀ (a0 : Int32) (V U : Mem), I V U → ∃ q r, f_X6_count a0 V = some q ∧ f_X7_count a0 U = some r ∧ q.1 = r.1 ∧ I q.2 r.2
def S_status (I : Mem → Mem → Prop) : Prop := ∀ (V U : Mem), I V U → ∃ q r, f_X6_status  V = some q ∧ f_X7_status  U = some r ∧ q.1 = r.1 ∧ I q.2 r.2
