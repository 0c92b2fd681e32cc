/-! THE METHODS AS FUNCTIONS -/
noncomputable def f_Tape_append_77 (l1 : Int) (h : xH) : Option (Int × xH) :=
  xlet (xup h 2 1 (w32 ((h 2 1) + l1))) (fun h1 => some (h1 2 1, h1))
noncomputable def f_Tape_append_s41 (l1 : Int) (l2 : Int64) (l4 : Int) (h : xH) : Option ((Int × xH) ⊕ xH) :=
  if l4 < l1 then (xgd (w32 ((h 2 1) + l4)) 240 (xlet (xup h 3 (w32 ((h 2 1) + l4)) (xand ((Int64.toInt32 (xlushr l2 (w32 (8 * l4)))).toInt) 255)) (fun h1 => xlet (w32 (l4 + 1)) (fun x2 => some (Sum.inl (x2, h1)))))) else (some (Sum.inr h))
noncomputable def f_Tape_append_41 (l1 : Int) (l2 : Int64) (l4 : Int) (h : xH) : Option (Int × xH) :=
  xc1 (xloop (fun s : (Int × xH) => f_Tape_append_s41 l1 l2 s.1 s.2) (l4, h)) (fun b => f_Tape_append_77 l1 b)
noncomputable def f_Tape_append (l1 : Int) (l2 : Int64) (h : xH) : Option (Int × xH) :=
  if l1 < 1 then (some ((-2), h)) else (if 8 < l1 then (some ((-2), h)) else (if h 2 1 < 0 then (some ((-4), h)) else (if 240 < w32 ((h 2 1) + l1) then (some ((-4), h)) else (f_Tape_append_41 l1 l2 0 h))))
noncomputable def f_WM_feed (l1 : Int) (l2 : Int64) (h : xH) : Option (Int × xH) :=
  xc2 (f_Tape_append l1 l2 h) (fun r1 h2 => some (r1, h2))
noncomputable def f_Row_clear (l0 : Int) (h : xH) : Option xH :=
  xlet (xup h l0 1 0) (fun h1 => some h1)
noncomputable def f_Row_append (l0 : Int) (l1 : Int) (h : xH) : Option (Int × xH) :=
  if h l0 1 < 0 then (some (0, h)) else (if h l0 1 < 12 then (xgd (h l0 1) 12 (xlet (xup h (l0 + 1) (h l0 1) l1) (fun h1 => xlet (xup h1 l0 1 (w32 ((h1 l0 1) + 1))) (fun h2 => some (1, h2))))) else (some (0, h)))
noncomputable def f_Tape_read_85  (h : xH) : Option (Int × xH) :=
  some (1, h)
noncomputable def f_Tape_read_s37 (l2 : Int) (l4 : Int) (l5 : Int) (h : xH) : Option ((Int × xH) ⊕ (xH ⊕ (Int × xH))) :=
  if l5 < l2 then (xgd l5 240 (xlet (w32 ((h 3 l5) - 97)) (fun x1 => if x1 < 0 then (some (Sum.inr (Sum.inr (0, h)))) else (if x1 < 26 then (xc2 (f_Row_append l4 x1 h) (fun r2 h3 => if r2 = 0 then (some (Sum.inr (Sum.inr (0, h3)))) else (xlet (w32 (l5 + 1)) (fun x4 => some (Sum.inl (x4, h3)))))) else (some (Sum.inr (Sum.inr (0, h)))))))) else (some (Sum.inr (Sum.inl h)))
noncomputable def f_Tape_read_37 (l2 : Int) (l4 : Int) (l5 : Int) (h : xH) : Option (Int × xH) :=
  xc1 (xloop (fun s : (Int × xH) => f_Tape_read_s37 l2 l4 s.1 s.2) (l5, h)) (fun q => xsw q (fun b => f_Tape_read_85 b) (fun r => some r))
noncomputable def f_Tape_read (l1 : Int) (l2 : Int) (l3 : Int) (l4 : Int) (h : xH) : Option (Int × xH) :=
  xc1 (f_Row_clear l4 h) (fun h1 => if l1 < 0 then (some (0, h1)) else (if 240 < l2 then (some (0, h1)) else (if w32 (l2 - l1) < 1 then (some (0, h1)) else (if l3 < w32 (l2 - l1) then (some (0, h1)) else (f_Tape_read_37 l2 l4 l1 h1)))))
noncomputable def f_Tape_takeRow (l1 : Int) (h : xH) : Option (Int × xH) :=
  xlet (h 2 1) (fun x1 => xlet (xup h 2 1 0) (fun h2 => xc2 (f_Tape_read 0 x1 12 l1 h2) (fun r3 h4 => xgb r3 (some (r3, h4)))))
noncomputable def f_Rows_at (l0 : Int) (l1 : Int) (l2 : Int) (h : xH) : Option Int :=
  if l1 < 0 then (some (-1)) else (if l1 < h l0 2 then (if l1 < (xN (l0 + 2) : Int) then (if l2 < 0 then (some (-1)) else (xgd l1 (xN (l0 + 2) : Int) (if l2 < h (l0 + 2) l1 then (xlet (w32 ((w32 (l1 * 12)) + l2)) (fun x1 => if x1 < 0 then (some (-1)) else (if x1 < (xN (l0 + 1) : Int) then (xgd x1 (xN (l0 + 1) : Int) (some (h (l0 + 1) x1))) else (some (-1))))) else (some (-1))))) else (some (-1))) else (some (-1)))
noncomputable def f_Row_at (l0 : Int) (l1 : Int) (h : xH) : Option Int :=
  if l1 < 0 then (some (-1)) else (if l1 < h l0 1 then (if l1 < 12 then (xgd l1 12 (some (h (l0 + 1) l1))) else (some (-1))) else (some (-1)))
noncomputable def f_Rows_order_36  (h : xH) : Option Int :=
  some 0
noncomputable def f_Rows_order_s2 (l0 : Int) (l1 : Int) (l2 : Int) (l3 : Int) (h : xH) : Option (Int ⊕ (Unit ⊕ Int)) :=
  if l3 < 12 then (xc1 (f_Rows_at l0 l1 l3 h) (fun r1 => xc1 (f_Row_at l2 l3 h) (fun r2 => xlet (w32 (r1 - r2)) (fun x3 => if x3 = 0 then (xlet (w32 (l3 + 1)) (fun x4 => some (Sum.inl x4))) else (some (Sum.inr (Sum.inr x3))))))) else (some (Sum.inr (Sum.inl ())))
noncomputable def f_Rows_order_2 (l0 : Int) (l1 : Int) (l2 : Int) (l3 : Int) (h : xH) : Option Int :=
  xc1 (xloop (fun s : Int => f_Rows_order_s2 l0 l1 l2 s h) l3) (fun q => xsw q (fun b => f_Rows_order_36 h) (fun r => some r))
noncomputable def f_Rows_order (l0 : Int) (l1 : Int) (l2 : Int) (h : xH) : Option Int :=
  f_Rows_order_2 l0 l1 l2 0 h
noncomputable def f_Lex_place_52 (l2 : Int) (h : xH) : Option Int :=
  some l2
noncomputable def f_Lex_place_45 (l1 : Int) (l2 : Int) (l3 : Int) (h : xH) : Option ((Int × Int) ⊕ Int) :=
  xlet (xdiv l3 2) (fun x1 => some (Sum.inl (l2, x1)))
noncomputable def f_Lex_place_s6 (l1 : Int) (l2 : Int) (l3 : Int) (h : xH) : Option ((Int × Int) ⊕ Int) :=
  if 0 < l3 then (xlet (w32 (l2 + l3)) (fun x1 => if h 5 2 < x1 then (f_Lex_place_45 l1 l2 l3 h) else (xc1 (f_Rows_order 5 (w32 (x1 - 1)) l1 h) (fun r2 => if r2 < 0 then (f_Lex_place_45 l1 x1 l3 h) else (f_Lex_place_45 l1 l2 l3 h))))) else (some (Sum.inr l2))
noncomputable def f_Lex_place_6 (l1 : Int) (l2 : Int) (l3 : Int) (h : xH) : Option Int :=
  xc1 (xloop (fun s : (Int × Int) => f_Lex_place_s6 l1 s.1 s.2 h) (l2, l3)) (fun b => f_Lex_place_52 b h)
noncomputable def f_Lex_place (l1 : Int) (h : xH) : Option Int :=
  f_Lex_place_6 l1 0 128 h
noncomputable def f_Lex_numberOf (l1 : Int) (h : xH) : Option Int :=
  xc1 (f_Lex_place l1 h) (fun r1 => if r1 < h 5 2 then (xc1 (f_Rows_order 5 r1 l1 h) (fun r2 => if r2 = 0 then (some r1) else (some (-1)))) else (some (-1)))
noncomputable def f_Rows_isFull (l0 : Int) (h : xH) : Option Int :=
  if h l0 2 < (xN (l0 + 2) : Int) then (some 0) else (some 1)
noncomputable def f_Rows_insert (l0 : Int) (l1 : Int) (l2 : Int) (h : xH) : Option xH :=
  if l1 < 0 then (some h) else (if h l0 2 < l1 then (some h) else (xc1 (f_Rows_isFull l0 h) (fun r1 => if r1 = 0 then (xgc (w32 (l1 * 12)) (w32 ((w32 (l1 + 1)) * 12)) (w32 ((w32 ((h l0 2) - l1)) * 12)) (xN (l0 + 1) : Int) (xN (l0 + 1) : Int) (xlet (xcp h (l0 + 1) (w32 (l1 * 12)) (l0 + 1) (w32 ((w32 (l1 + 1)) * 12)) (w32 ((w32 ((h l0 2) - l1)) * 12))) (fun h2 => xgc l1 (w32 (l1 + 1)) (w32 ((h2 l0 2) - l1)) (xN (l0 + 2) : Int) (xN (l0 + 2) : Int) (xlet (xcp h2 (l0 + 2) l1 (l0 + 2) (w32 (l1 + 1)) (w32 ((h2 l0 2) - l1))) (fun h3 => xgc 0 (w32 (l1 * 12)) 12 12 (xN (l0 + 1) : Int) (xlet (xcp h3 (l2 + 1) 0 (l0 + 1) (w32 (l1 * 12)) 12) (fun h4 => xgd l1 (xN (l0 + 2) : Int) (xlet (xup h4 (l0 + 2) l1 (h4 l2 1)) (fun h5 => xlet (xup h5 l0 2 (w32 ((h5 l0 2) + 1))) (fun h6 => some h6)))))))))) else (some h))))
noncomputable def f_Lex_grow_45 (l1 : Int) (l2 : Int) (h : xH) : Option (Int × xH) :=
  xc1 (f_Lex_place l1 h) (fun r1 => xc1 (f_Rows_isFull 5 h) (fun r2 => if r2 = 0 then (if r1 < 0 then (some ((-4), h)) else (if h 5 2 < r1 then (some ((-4), h)) else (if r1 < 200 then (xgc r1 (w32 (r1 + 1)) (w32 ((h 5 2) - r1)) 200 200 (xlet (xcp h 8 r1 8 (w32 (r1 + 1)) (w32 ((h 5 2) - r1))) (fun h3 => xgd r1 200 (xlet (xup h3 8 r1 l2) (fun h4 => xc1 (f_Rows_insert 5 r1 l1 h4) (fun h5 => some (l2, h5))))))) else (some ((-4), h))))) else (some ((-4), h))))
noncomputable def f_Lex_grow (l1 : Int) (l2 : Int) (h : xH) : Option (Int × xH) :=
  xc1 (f_Lex_numberOf l1 h) (fun r1 => if r1 < 0 then (f_Lex_grow_45 l1 l2 h) else (if r1 < 200 then (xgd r1 200 (xgd r1 200 (xlet (xup h 8 r1 (min (w32 ((h 8 r1) + l2)) 100000)) (fun h2 => xgd r1 200 (some (h2 8 r1, h2)))))) else (f_Lex_grow_45 l1 l2 h)))
noncomputable def f_WM_add (l1 : Int) (h : xH) : Option (Int × xH) :=
  xc2 (f_Tape_takeRow 23 h) (fun r1 h2 => if r1 = 0 then (some ((-2), h2)) else (if l1 < 1 then (some ((-2), h2)) else (if 100000 < l1 then (some ((-2), h2)) else (xc2 (f_Lex_grow 23 l1 h2) (fun r3 h4 => some (r3, h4))))))
noncomputable def f_Rows_remove (l0 : Int) (l1 : Int) (h : xH) : Option xH :=
  if l1 < 0 then (some h) else (if l1 < h l0 2 then (if (xN (l0 + 2) : Int) < h l0 2 then (some h) else (xlet (w32 ((w32 ((h l0 2) - l1)) - 1)) (fun x1 => xgc (w32 ((w32 (l1 + 1)) * 12)) (w32 (l1 * 12)) (w32 (x1 * 12)) (xN (l0 + 1) : Int) (xN (l0 + 1) : Int) (xlet (xcp h (l0 + 1) (w32 ((w32 (l1 + 1)) * 12)) (l0 + 1) (w32 (l1 * 12)) (w32 (x1 * 12))) (fun h2 => xgc (w32 (l1 + 1)) l1 x1 (xN (l0 + 2) : Int) (xN (l0 + 2) : Int) (xlet (xcp h2 (l0 + 2) (w32 (l1 + 1)) (l0 + 2) l1 x1) (fun h3 => xlet (xup h3 l0 2 (w32 ((h3 l0 2) - 1))) (fun h4 => some h4)))))))) else (some h))
noncomputable def f_Lex_remove (l1 : Int) (h : xH) : Option (Int × xH) :=
  xc1 (f_Lex_numberOf l1 h) (fun r1 => if r1 < 0 then (some (0, h)) else (if r1 < 200 then (xgd r1 200 (xlet (h 8 r1) (fun x2 => xgc (w32 (r1 + 1)) r1 (w32 ((w32 ((h 5 2) - r1)) - 1)) 200 200 (xlet (xcp h 8 (w32 (r1 + 1)) 8 r1 (w32 ((w32 ((h 5 2) - r1)) - 1))) (fun h3 => xc1 (f_Rows_remove 5 r1 h3) (fun h4 => some (x2, h4))))))) else (some (0, h))))
noncomputable def f_WM_drop  (h : xH) : Option (Int × xH) :=
  xc2 (f_Tape_takeRow 23 h) (fun r1 h2 => if r1 = 0 then (some ((-2), h2)) else (xc2 (f_Lex_remove 23 h2) (fun r3 h4 => some (r3, h4))))
noncomputable def f_WM_find  (h : xH) : Option (Int × xH) :=
  xc2 (f_Tape_takeRow 23 h) (fun r1 h2 => if r1 = 0 then (some ((-2), h2)) else (xc1 (f_Lex_numberOf 23 h2) (fun r3 => some (r3, h2))))
noncomputable def f_Lex_countOf (l1 : Int) (h : xH) : Option Int :=
  if l1 < 0 then (some 0) else (if l1 < 200 then (xgd l1 200 (some (h 8 l1))) else (some 0))
noncomputable def f_Rows_sizeOf (l0 : Int) (l1 : Int) (h : xH) : Option Int :=
  if l1 < 0 then (some 0) else (if l1 < h l0 2 then (if l1 < (xN (l0 + 2) : Int) then (xgd l1 (xN (l0 + 2) : Int) (some (h (l0 + 2) l1))) else (some 0)) else (some 0))
noncomputable def f_WM_word (l1 : Int) (l2 : Int) (h : xH) : Option Int :=
  if l1 < 0 then (some (-2)) else (if l1 < h 5 2 then (if l2 < 0 then (some (-2)) else (if l2 = 0 then (xc1 (f_Lex_countOf l1 h) (fun r1 => some r1)) else (if l2 = 1 then (xc1 (f_Rows_sizeOf 5 l1 h) (fun r2 => some r2)) else (xc1 (f_Rows_at 5 l1 (w32 (l2 - 2)) h) (fun r3 => some r3))))) else (some (-2)))
noncomputable def f_Rows_shared_41 (l2 : Int) (h : xH) : Option Int :=
  some l2
noncomputable def f_Rows_shared_s9 (l0 : Int) (l1 : Int) (l2 : Int) (h : xH) : Option (Int ⊕ Int) :=
  xc1 (f_Rows_sizeOf l0 l1 h) (fun r1 => if l2 < r1 then (xc1 (f_Rows_at l0 l1 l2 h) (fun r2 => xc1 (f_Rows_at l0 (w32 (l1 - 1)) l2 h) (fun r3 => if r2 = r3 then (xlet (w32 (l2 + 1)) (fun x4 => some (Sum.inl x4))) else (some (Sum.inr l2))))) else (some (Sum.inr l2)))
noncomputable def f_Rows_shared_9 (l0 : Int) (l1 : Int) (l2 : Int) (h : xH) : Option Int :=
  xc1 (xloop (fun s : Int => f_Rows_shared_s9 l0 l1 s h) l2) (fun b => f_Rows_shared_41 b h)
noncomputable def f_Rows_shared (l0 : Int) (l1 : Int) (h : xH) : Option Int :=
  if l1 < 1 then (some (-1)) else (f_Rows_shared_9 l0 l1 0 h)
noncomputable def f_Lex_nodes_41 (l1 : Int) (h : xH) : Option Int :=
  some l1
noncomputable def f_Lex_nodes_s4 (l1 : Int) (l2 : Int) (h : xH) : Option ((Int × Int) ⊕ Int) :=
  if l2 < h 5 2 then (xc1 (f_Rows_sizeOf 5 l2 h) (fun r1 => xc1 (f_Rows_shared 5 l2 h) (fun r2 => xlet (w32 (l1 + (w32 (r1 - r2)))) (fun x3 => xlet (w32 (l2 + 1)) (fun x4 => some (Sum.inl (x3, x4))))))) else (some (Sum.inr l1))
noncomputable def f_Lex_nodes_4 (l1 : Int) (l2 : Int) (h : xH) : Option Int :=
  xc1 (xloop (fun s : (Int × Int) => f_Lex_nodes_s4 s.1 s.2 h) (l1, l2)) (fun b => f_Lex_nodes_41 b h)
noncomputable def f_Lex_nodes  (h : xH) : Option Int :=
  f_Lex_nodes_4 0 0 h
noncomputable def f_WM_count (l1 : Int) (h : xH) : Option Int :=
  if l1 = 0 then (some (h 5 2)) else (if l1 = 1 then (xc1 (f_Lex_nodes h) (fun r1 => some r1)) else (if l1 = 2 then (some (h 14 2)) else (if l1 = 3 then (some (h 40 2)) else (if l1 = 4 then (some (h 2 1)) else (if l1 = 5 then (some (h 49 5)) else (if l1 = 6 then (some (h 49 6)) else (if l1 = 7 then (some (h 62 4)) else (some (-2)))))))))
noncomputable def f_Slips_setKind (l1 : Int) (l2 : Int) (h : xH) : Option (Int × xH) :=
  if l2 = 0 then (some ((-2), h)) else (if l1 < 1 then (some ((-2), h)) else (if l1 = 7 then (some ((-2), h)) else (if l1 < 10 then (xgd l1 10 (xlet (h 10 l1) (fun x1 => xgd l1 10 (xlet (xup h 10 l1 l2) (fun h2 => some (x1, h2)))))) else (some ((-2), h)))))
noncomputable def f_Slips_exchange (l0 : Int) (l1 : Int) (l2 : Int) (h : xH) : Option (Int × xH) :=
  if l1 < 0 then (some ((-2), h)) else (if l1 < (xN l0 : Int) then (xgd l1 (xN l0 : Int) (xlet (h l0 l1) (fun x1 => xgd l1 (xN l0 : Int) (xlet (xup h l0 l1 l2) (fun h2 => some (x1, h2)))))) else (some ((-2), h)))
noncomputable def f_Slips_setByLetters_55  (h : xH) : Option (Int × xH) :=
  some ((-2), h)
noncomputable def f_Slips_setByLetters (l1 : Int) (l2 : Int) (l3 : Int) (l4 : Int) (h : xH) : Option (Int × xH) :=
  if l2 < 0 then (some ((-2), h)) else (if l2 < 26 then (if l1 = 1 then (if l3 < 0 then (f_Slips_setByLetters_55 h) else (if l3 < 26 then (if l2 = l3 then (f_Slips_setByLetters_55 h) else (xc2 (f_Slips_exchange 11 (w32 ((w32 (l2 * 26)) + l3)) l4 h) (fun r1 h2 => some (r1, h2)))) else (f_Slips_setByLetters_55 h))) else (if l1 = 2 then (xc2 (f_Slips_exchange 12 l2 l4 h) (fun r3 h4 => some (r3, h4))) else (if l1 = 3 then (xc2 (f_Slips_exchange 13 l2 l4 h) (fun r5 h6 => some (r5, h6))) else (some ((-2), h))))) else (some ((-2), h)))
noncomputable def f_WM_price_37 (l1 : Int) (l2 : Int) (l3 : Int) (l4 : Int) (h : xH) : Option (Int × xH) :=
  xc2 (f_Slips_setByLetters l1 l2 l3 l4 h) (fun r1 h2 => some (r1, h2))
noncomputable def f_WM_price (l1 : Int) (l2 : Int) (l3 : Int) (l4 : Int) (h : xH) : Option (Int × xH) :=
  if l4 < 0 then (some ((-2), h)) else (if 9999 < l4 then (some ((-2), h)) else (if l2 = (-1) then (if l3 = (-1) then (xc2 (f_Slips_setKind l1 l4 h) (fun r1 h2 => some (r1, h2))) else (f_WM_price_37 l1 l2 l3 l4 h)) else (f_WM_price_37 l1 l2 l3 l4 h)))
noncomputable def f_Tape_seek_44 (l3 : Int) (h : xH) : Option Int :=
  some l3
noncomputable def f_Tape_seek_38 (l1 : Int) (l3 : Int) (l4 : Int) (h : xH) : Option (Int ⊕ (Unit ⊕ Int)) :=
  xlet (w32 (l4 + 1)) (fun x1 => some (Sum.inl x1))
noncomputable def f_Tape_seek_s3 (l1 : Int) (l3 : Int) (l4 : Int) (h : xH) : Option (Int ⊕ (Unit ⊕ Int)) :=
  if l4 < l3 then (if l4 < 0 then (f_Tape_seek_38 l1 l3 l4 h) else (if l4 < 240 then (xgd l4 240 (if h 3 l4 = l1 then (some (Sum.inr (Sum.inr l4))) else (f_Tape_seek_38 l1 l3 l4 h))) else (f_Tape_seek_38 l1 l3 l4 h))) else (some (Sum.inr (Sum.inl ())))
noncomputable def f_Tape_seek_3 (l1 : Int) (l3 : Int) (l4 : Int) (h : xH) : Option Int :=
  xc1 (xloop (fun s : Int => f_Tape_seek_s3 l1 l3 s h) l4) (fun q => xsw q (fun b => f_Tape_seek_44 l3 h) (fun r => some r))
noncomputable def f_Tape_seek (l1 : Int) (l2 : Int) (l3 : Int) (h : xH) : Option Int :=
  f_Tape_seek_3 l1 l3 l2 h
noncomputable def f_Tape_takeTwo (l1 : Int) (l2 : Int) (l3 : Int) (h : xH) : Option (Int × xH) :=
  xlet (h 2 1) (fun x1 => xlet (xup h 2 1 0) (fun h2 => xc1 (f_Tape_seek 61 0 x1 h2) (fun r3 => xc2 (f_Tape_read 0 r3 l1 l2 h2) (fun r4 h5 => if r4 = 0 then (some (0, h5)) else (xc2 (f_Tape_read (w32 (r3 + 1)) x1 l1 l3 h5) (fun r6 h7 => if r6 = 0 then (some (0, h7)) else (some (1, h7))))))))
noncomputable def f_Rows_append (l0 : Int) (l1 : Int) (h : xH) : Option xH :=
  xc1 (f_Rows_insert l0 (h l0 2) l1 h) (fun h1 => some h1)
noncomputable def f_Slips_addSound (l1 : Int) (l2 : Int) (l3 : Int) (h : xH) : Option (Int × xH) :=
  xlet (h 14 2) (fun x1 => xc1 (f_Rows_isFull 14 h) (fun r2 => if r2 = 0 then (xc1 (f_Rows_isFull 17 h) (fun r3 => if r3 = 0 then (if x1 < 0 then (some ((-4), h)) else (if x1 < 20 then (xc1 (f_Rows_append 14 l1 h) (fun h4 => xc1 (f_Rows_append 17 l2 h4) (fun h5 => xgd x1 20 (xlet (xup h5 20 x1 l3) (fun h6 => some (x1, h6)))))) else (some ((-4), h)))) else (some ((-4), h)))) else (some ((-4), h))))
noncomputable def f_WM_sound (l1 : Int) (h : xH) : Option (Int × xH) :=
  xc2 (f_Tape_takeTwo 3 21 23 h) (fun r1 h2 => if r1 = 0 then (some ((-2), h2)) else (if l1 < 1 then (some ((-2), h2)) else (if 9999 < l1 then (some ((-2), h2)) else (xc2 (f_Slips_addSound 21 23 l1 h2) (fun r3 h4 => some (r3, h4))))))
noncomputable def f_WM_model (l1 : Int) (h : xH) : Option (Int × xH) :=
  if l1 < 0 then (some ((-2), h)) else (if 100000 < l1 then (some ((-2), h)) else (xlet (h 4 2) (fun x1 => xlet (xup h 4 2 l1) (fun h2 => some (x1, h2)))))
noncomputable def f_Slips_codes  (h : xH) : Option Int :=
  some (w32 (7 + (h 14 2)))
noncomputable def f_Slips_byLetters_17 (l2 : Int) (s0 : Int) (h : xH) : Option Int :=
  if 0 < s0 then (some s0) else (some l2)
noncomputable def f_Slips_byLetters_16 (l2 : Int) (h : xH) : Option Int :=
  f_Slips_byLetters_17 l2 0 h
noncomputable def f_Slips_byLetters (l0 : Int) (l1 : Int) (l2 : Int) (h : xH) : Option Int :=
  if l1 < 0 then (f_Slips_byLetters_16 l2 h) else (if l1 < (xN l0 : Int) then (xgd l1 (xN l0 : Int) (f_Slips_byLetters_17 l2 (h l0 l1) h)) else (f_Slips_byLetters_16 l2 h))
noncomputable def f_Rows_standsIn_123  (h : xH) : Option Int :=
  some 1
noncomputable def f_Rows_standsIn_s45 (l0 : Int) (l1 : Int) (l2 : Int) (l3 : Int) (l4 : Int) (h : xH) : Option (Int ⊕ (Unit ⊕ Int)) :=
  xgd l1 (xN (l0 + 2) : Int) (if l4 < h (l0 + 2) l1 then (if l4 < 12 then (xlet (w32 ((w32 (l1 * 12)) + l4)) (fun x1 => xlet (w32 (l3 + l4)) (fun x2 => if x1 < (xN (l0 + 1) : Int) then (if x2 < 12 then (xgd x1 (xN (l0 + 1) : Int) (xgd x2 12 (if h (l0 + 1) x1 = h (l2 + 1) x2 then (xlet (w32 (l4 + 1)) (fun x3 => some (Sum.inl x3))) else (some (Sum.inr (Sum.inr 0)))))) else (some (Sum.inr (Sum.inr 0)))) else (some (Sum.inr (Sum.inr 0)))))) else (some (Sum.inr (Sum.inl ())))) else (some (Sum.inr (Sum.inl ()))))
noncomputable def f_Rows_standsIn_45 (l0 : Int) (l1 : Int) (l2 : Int) (l3 : Int) (l4 : Int) (h : xH) : Option Int :=
  xc1 (xloop (fun s : Int => f_Rows_standsIn_s45 l0 l1 l2 l3 s h) l4) (fun q => xsw q (fun b => f_Rows_standsIn_123 h) (fun r => some r))
noncomputable def f_Rows_standsIn (l0 : Int) (l1 : Int) (l2 : Int) (l3 : Int) (h : xH) : Option Int :=
  if l1 < 0 then (some 0) else (if l1 < h l0 2 then (if l1 < (xN (l0 + 2) : Int) then (if l3 < 0 then (some 0) else (xgd l1 (xN (l0 + 2) : Int) (if h l2 1 < w32 (l3 + (h (l0 + 2) l1)) then (some 0) else (f_Rows_standsIn_45 l0 l1 l2 l3 0 h)))) else (some 0)) else (some 0))
noncomputable def f_Slips_soundPrice (l1 : Int) (h : xH) : Option Int :=
  if l1 < 0 then (some (-1)) else (if l1 < 20 then (xgd l1 20 (some (h 20 l1))) else (some (-1)))
noncomputable def f_Slips_priceAt_108  (h : xH) : Option Int :=
  some (-1)
noncomputable def f_Slips_priceAt_34 (l1 : Int) (l2 : Int) (l3 : Int) (l4 : Int) (l5 : Int) (l6 : Int) (l7 : Int) (s0 : Int) (h : xH) : Option Int :=
  if l1 = 0 then (if s0 = 0 then (some (-1)) else (some 0)) else (if l1 = 1 then (if l6 = (-1) then (f_Slips_priceAt_108 h) else (if l7 = (-1) then (f_Slips_priceAt_108 h) else (if s0 = 0 then (xgd 1 10 (xc1 (f_Slips_byLetters 11 (w32 ((w32 (l6 * 26)) + l7)) (h 10 1) h) (fun r1 => some r1))) else (f_Slips_priceAt_108 h)))) else (if l1 = 2 then (if l6 = (-1) then (some (-1)) else (xgd 2 10 (xc1 (f_Slips_byLetters 12 l6 (h 10 2) h) (fun r2 => some r2)))) else (if l1 = 3 then (if l7 = (-1) then (some (-1)) else (xgd 3 10 (xc1 (f_Slips_byLetters 13 l7 (h 10 3) h) (fun r3 => some r3)))) else (if l1 = 4 then (if l6 = (-1) then (some (-1)) else (if l7 = (-1) then (some (-1)) else (if s0 = 0 then (xc1 (f_Row_at l2 (w32 (l3 + 1)) h) (fun r4 => if r4 = l7 then (xc1 (f_Row_at l4 (w32 (l5 + 1)) h) (fun r5 => if r5 = l6 then (xgd 4 10 (some (h 10 4))) else (some (-1)))) else (some (-1)))) else (some (-1))))) else (if l1 = 5 then (if s0 = 0 then (some (-1)) else (xc1 (f_Row_at l4 (w32 (l5 + 1)) h) (fun r6 => if r6 = l6 then (xgd 5 10 (some (h 10 5))) else (some (-1))))) else (if l1 = 6 then (if s0 = 0 then (some (-1)) else (xc1 (f_Row_at l2 (w32 (l3 + 1)) h) (fun r7 => if r7 = l6 then (xgd 6 10 (some (h 10 6))) else (some (-1))))) else (xc1 (f_Rows_standsIn 14 (w32 (l1 - 7)) l2 l3 h) (fun r8 => if r8 = 0 then (some (-1)) else (xc1 (f_Rows_standsIn 17 (w32 (l1 - 7)) l4 l5 h) (fun r9 => if r9 = 0 then (some (-1)) else (xc1 (f_Slips_soundPrice (w32 (l1 - 7)) h) (fun r10 => some r10))))))))))))
noncomputable def f_Slips_priceAt_33 (l1 : Int) (l2 : Int) (l3 : Int) (l4 : Int) (l5 : Int) (l6 : Int) (l7 : Int) (h : xH) : Option Int :=
  f_Slips_priceAt_34 l1 l2 l3 l4 l5 l6 l7 0 h
noncomputable def f_Slips_priceAt (l1 : Int) (l2 : Int) (l3 : Int) (l4 : Int) (l5 : Int) (h : xH) : Option Int :=
  xc1 (f_Row_at l2 l3 h) (fun r1 => xc1 (f_Row_at l4 l5 h) (fun r2 => if r1 = (-1) then (f_Slips_priceAt_33 l1 l2 l3 l4 l5 r1 r2 h) else (if r1 = r2 then (f_Slips_priceAt_34 l1 l2 l3 l4 l5 r1 r2 1 h) else (f_Slips_priceAt_33 l1 l2 l3 l4 l5 r1 r2 h))))
noncomputable def f_Slips_meantTaken_20 (l1 : Int) (h : xH) : Option Int :=
  xc1 (f_Rows_sizeOf 14 (w32 (l1 - 7)) h) (fun r1 => some r1)
noncomputable def f_Slips_meantTaken (l1 : Int) (h : xH) : Option Int :=
  if l1 < 0 then (f_Slips_meantTaken_20 l1 h) else (if l1 < 7 then (xgd l1 7 (some (xTb (-1) l1))) else (f_Slips_meantTaken_20 l1 h))
noncomputable def f_Slips_typedTaken_20 (l1 : Int) (h : xH) : Option Int :=
  xc1 (f_Rows_sizeOf 17 (w32 (l1 - 7)) h) (fun r1 => some r1)
noncomputable def f_Slips_typedTaken (l1 : Int) (h : xH) : Option Int :=
  if l1 < 0 then (f_Slips_typedTaken_20 l1 h) else (if l1 < 7 then (xgd l1 7 (some (xTb (-2) l1))) else (f_Slips_typedTaken_20 l1 h))
noncomputable def f_Way_sumBy_64  (h : xH) : Option Int :=
  some 1000000
noncomputable def f_Way_sumBy (l0 : Int) (l1 : Int) (l2 : Int) (l3 : Int) (l4 : Int) (l5 : Int) (h : xH) : Option Int :=
  xc1 (f_Slips_priceAt l1 l2 l3 l4 l5 h) (fun r1 => xc1 (f_Slips_meantTaken l1 h) (fun r2 => xc1 (f_Slips_typedTaken l1 h) (fun r3 => xlet (w32 ((w32 ((w32 ((w32 (l3 + r2)) * 13)) + l5)) + r3)) (fun x4 => if r1 = (-1) then (f_Way_sumBy_64 h) else (if x4 < 0 then (f_Way_sumBy_64 h) else (if x4 < 169 then (xgd x4 169 (some (w32 (r1 + (h (l0 + 1) x4))))) else (f_Way_sumBy_64 h)))))))
noncomputable def f_Way_leastFrom_62 (l5 : Int) (h : xH) : Option Int :=
  some l5
noncomputable def f_Way_leastFrom_s26 (l0 : Int) (l1 : Int) (l2 : Int) (l3 : Int) (l4 : Int) (l5 : Int) (l6 : Int) (h : xH) : Option ((Int × Int) ⊕ Int) :=
  xc1 (f_Slips_codes h) (fun r1 => if l6 < r1 then (xc1 (f_Way_sumBy l0 l6 l1 l2 l3 l4 h) (fun r2 => xlet (min l5 r2) (fun x3 => xlet (w32 (l6 + 1)) (fun x4 => some (Sum.inl (x3, x4)))))) else (some (Sum.inr l5)))
noncomputable def f_Way_leastFrom_26 (l0 : Int) (l1 : Int) (l2 : Int) (l3 : Int) (l4 : Int) (l5 : Int) (l6 : Int) (h : xH) : Option Int :=
  xc1 (xloop (fun s : (Int × Int) => f_Way_leastFrom_s26 l0 l1 l2 l3 l4 s.1 s.2 h) (l5, l6)) (fun b => f_Way_leastFrom_62 b h)
noncomputable def f_Way_leastFrom_19 (l0 : Int) (l1 : Int) (l2 : Int) (l3 : Int) (l4 : Int) (h : xH) : Option Int :=
  f_Way_leastFrom_26 l0 l1 l2 l3 l4 1000000 0 h
noncomputable def f_Way_leastFrom (l0 : Int) (l1 : Int) (l2 : Int) (l3 : Int) (l4 : Int) (h : xH) : Option Int :=
  if l2 = h l1 1 then (if l4 = h l3 1 then (some 0) else (f_Way_leastFrom_19 l0 l1 l2 l3 l4 h)) else (f_Way_leastFrom_19 l0 l1 l2 l3 l4 h)
noncomputable def f_Way_measure_67 (l0 : Int) (h : xH) : Option (Int × xH) :=
  xgd 0 169 (some (h (l0 + 1) 0, h))
noncomputable def f_Way_measure_61 (l0 : Int) (l1 : Int) (l2 : Int) (l3 : Int) (h : xH) : Option ((Int × xH) ⊕ xH) :=
  xlet (w32 (l3 + (-1))) (fun x1 => some (Sum.inl (x1, h)))
noncomputable def f_Way_measure_55 (l0 : Int) (l1 : Int) (l2 : Int) (l3 : Int) (l4 : Int) (h : xH) : Option ((Int × xH) ⊕ xH) :=
  xlet (w32 (l4 + (-1))) (fun x1 => some (Sum.inl (x1, h)))
noncomputable def f_Way_measure_s15 (l0 : Int) (l1 : Int) (l2 : Int) (l3 : Int) (l4 : Int) (h : xH) : Option ((Int × xH) ⊕ xH) :=
  if l4 < 0 then (some (Sum.inr h)) else (xlet (w32 ((w32 (l3 * 13)) + l4)) (fun x1 => if x1 < 169 then (xc1 (f_Way_leastFrom l0 l1 l3 l2 l4 h) (fun r2 => xgd x1 169 (xlet (xup h (l0 + 1) x1 r2) (fun h3 => f_Way_measure_55 l0 l1 l2 l3 l4 h3)))) else (f_Way_measure_55 l0 l1 l2 l3 l4 h)))
noncomputable def f_Way_measure_15 (l0 : Int) (l1 : Int) (l2 : Int) (l3 : Int) (l4 : Int) (h : xH) : Option ((Int × xH) ⊕ xH) :=
  xc1 (xloop (fun s : (Int × xH) => f_Way_measure_s15 l0 l1 l2 l3 s.1 s.2) (l4, h)) (fun b => f_Way_measure_61 l0 l1 l2 l3 b)
noncomputable def f_Way_measure_s5 (l0 : Int) (l1 : Int) (l2 : Int) (l3 : Int) (h : xH) : Option ((Int × xH) ⊕ xH) :=
  if l3 < 0 then (some (Sum.inr h)) else (xlet (h l2 1) (fun x1 => f_Way_measure_15 l0 l1 l2 l3 x1 h))
noncomputable def f_Way_measure_5 (l0 : Int) (l1 : Int) (l2 : Int) (l3 : Int) (h : xH) : Option (Int × xH) :=
  xc1 (xloop (fun s : (Int × xH) => f_Way_measure_s5 l0 l1 l2 s.1 s.2) (l3, h)) (fun b => f_Way_measure_67 l0 b)
noncomputable def f_Way_measure (l0 : Int) (l1 : Int) (l2 : Int) (h : xH) : Option (Int × xH) :=
  xlet (h l1 1) (fun x1 => f_Way_measure_5 l0 l1 l2 x1 h)
noncomputable def f_Way_firstCode_53 (l5 : Int) (h : xH) : Option Int :=
  some l5
noncomputable def f_Way_firstCode_47 (l0 : Int) (l1 : Int) (l2 : Int) (l3 : Int) (l4 : Int) (l5 : Int) (l6 : Int) (h : xH) : Option ((Int × Int) ⊕ Int) :=
  xlet (w32 (l6 + 1)) (fun x1 => some (Sum.inl (l5, x1)))
noncomputable def f_Way_firstCode_s6 (l0 : Int) (l1 : Int) (l2 : Int) (l3 : Int) (l4 : Int) (l5 : Int) (l6 : Int) (h : xH) : Option ((Int × Int) ⊕ Int) :=
  xc1 (f_Slips_codes h) (fun r1 => if l6 < r1 then (xc1 (f_Way_sumBy l0 l6 l1 l2 l3 l4 h) (fun r2 => xc1 (f_Way_sumBy l0 l5 l1 l2 l3 l4 h) (fun r3 => if r2 < r3 then (f_Way_firstCode_47 l0 l1 l2 l3 l4 l6 l6 h) else (f_Way_firstCode_47 l0 l1 l2 l3 l4 l5 l6 h)))) else (some (Sum.inr l5)))
noncomputable def f_Way_firstCode_6 (l0 : Int) (l1 : Int) (l2 : Int) (l3 : Int) (l4 : Int) (l5 : Int) (l6 : Int) (h : xH) : Option Int :=
  xc1 (xloop (fun s : (Int × Int) => f_Way_firstCode_s6 l0 l1 l2 l3 l4 s.1 s.2 h) (l5, l6)) (fun b => f_Way_firstCode_53 b h)
noncomputable def f_Way_firstCode (l0 : Int) (l1 : Int) (l2 : Int) (l3 : Int) (l4 : Int) (h : xH) : Option Int :=
  f_Way_firstCode_6 l0 l1 l2 l3 l4 0 1 h
noncomputable def f_Way_trace_141  (h : xH) : Option xH :=
  some h
noncomputable def f_Way_trace_36 (l0 : Int) (l1 : Int) (l2 : Int) (l3 : Int) (l4 : Int) (h : xH) : Option ((Int × Int × xH) ⊕ xH) :=
  xc1 (f_Way_firstCode l0 l1 l3 l2 l4 h) (fun r1 => xgd (h l0 6) 24 (xlet (xup h (l0 + 2) (h l0 6) r1) (fun h2 => xc1 (f_Slips_priceAt r1 l1 l3 l2 l4 h2) (fun r3 => xgd (h2 l0 6) 24 (xlet (xup h2 (l0 + 3) (h2 l0 6) r3) (fun h4 => xgd (h4 l0 6) 24 (xlet (xup h4 (l0 + 4) (h4 l0 6) l3) (fun h5 => xgd (h5 l0 6) 24 (xlet (xup h5 (l0 + 5) (h5 l0 6) l4) (fun h6 => xlet (xup h6 l0 6 (w32 ((h6 l0 6) + 1))) (fun h7 => xc1 (f_Slips_meantTaken r1 h7) (fun r8 => xlet (w32 (l3 + r8)) (fun x9 => xc1 (f_Slips_typedTaken r1 h7) (fun r10 => xlet (w32 (l4 + r10)) (fun x11 => some (Sum.inl (x9, x11, h7)))))))))))))))))
noncomputable def f_Way_trace_s10 (l0 : Int) (l1 : Int) (l2 : Int) (l3 : Int) (l4 : Int) (h : xH) : Option ((Int × Int × xH) ⊕ xH) :=
  if h l0 6 < 24 then (if l3 < h l1 1 then (f_Way_trace_36 l0 l1 l2 l3 l4 h) else (if l4 < h l2 1 then (f_Way_trace_36 l0 l1 l2 l3 l4 h) else (some (Sum.inr h)))) else (some (Sum.inr h))
noncomputable def f_Way_trace_10 (l0 : Int) (l1 : Int) (l2 : Int) (l3 : Int) (l4 : Int) (h : xH) : Option xH :=
  xc1 (xloop (fun s : (Int × Int × xH) => f_Way_trace_s10 l0 l1 l2 s.1 s.2.1 s.2.2) (l3, l4, h)) (fun b => f_Way_trace_141 b)
noncomputable def f_Way_trace (l0 : Int) (l1 : Int) (l2 : Int) (h : xH) : Option xH :=
  xlet (xup h l0 6 0) (fun h1 => f_Way_trace_10 l0 l1 l2 0 0 h1)
noncomputable def f_WM_distance  (h : xH) : Option (Int × xH) :=
  xc2 (f_Tape_takeTwo 12 21 23 h) (fun r1 h2 => if r1 = 0 then (some ((-2), h2)) else (xc2 (f_Way_measure 28 21 23 h2) (fun r3 h4 => xc1 (f_Way_trace 28 21 23 h4) (fun h5 => some (r3, h5)))))
noncomputable def f_Way_codeAt (l0 : Int) (l1 : Int) (h : xH) : Option Int :=
  if l1 < 0 then (some (-1)) else (if l1 < h l0 6 then (if l1 < 24 then (xgd l1 24 (some (h (l0 + 2) l1))) else (some (-1))) else (some (-1)))
noncomputable def f_Way_tell (l0 : Int) (l1 : Int) (l2 : Int) (h : xH) : Option Int :=
  xc1 (f_Way_codeAt l0 l1 h) (fun r1 => if r1 = (-1) then (some (-1)) else (if l2 = 0 then (some (min r1 7)) else (if l2 = 1 then (xgd l1 24 (some (h (l0 + 3) l1))) else (if l2 = 2 then (xgd l1 24 (some (h (l0 + 4) l1))) else (if l2 = 3 then (xgd l1 24 (some (h (l0 + 5) l1))) else (if r1 < 7 then (some (-1)) else (some (w32 (r1 - 7)))))))))
noncomputable def f_WM_way (l1 : Int) (l2 : Int) (h : xH) : Option Int :=
  if l2 < 0 then (some (-2)) else (if 4 < l2 then (some (-2)) else (if l1 = (-1) then (some (h 28 6)) else (xc1 (f_Way_tell 28 l1 l2 h) (fun r1 => some r1))))
noncomputable def f_WM_isNoBound_11  (h : xH) : Option Int :=
  some 1
noncomputable def f_WM_isNoBound (l0 : Int) (h : xH) : Option Int :=
  if l0 < 0 then (f_WM_isNoBound_11 h) else (if 99999 < l0 then (f_WM_isNoBound_11 h) else (some 0))
noncomputable def f_Met_clear (l1 : Int) (h : xH) : Option xH :=
  xlet (xup h 49 5 0) (fun h1 => xlet (xup h1 49 6 0) (fun h2 => xlet (xup h2 49 7 (max 0 (min l1 13))) (fun h3 => some h3)))
noncomputable def f_Rows_copyTo_32  (h : xH) : Option xH :=
  some h
noncomputable def f_Rows_copyTo_s6 (l0 : Int) (l1 : Int) (l2 : Int) (l3 : Int) (h : xH) : Option ((Int × xH) ⊕ xH) :=
  xc1 (f_Rows_sizeOf l0 l1 h) (fun r1 => if l3 < r1 then (xc1 (f_Rows_at l0 l1 l3 h) (fun r2 => xc2 (f_Row_append l2 r2 h) (fun r3 h4 => xlet (w32 (l3 + 1)) (fun x5 => some (Sum.inl (x5, h4)))))) else (some (Sum.inr h)))
noncomputable def f_Rows_copyTo_6 (l0 : Int) (l1 : Int) (l2 : Int) (l3 : Int) (h : xH) : Option xH :=
  xc1 (xloop (fun s : (Int × xH) => f_Rows_copyTo_s6 l0 l1 l2 s.1 s.2) (l3, h)) (fun b => f_Rows_copyTo_32 b)
noncomputable def f_Rows_copyTo (l0 : Int) (l1 : Int) (l2 : Int) (h : xH) : Option xH :=
  xc1 (f_Row_clear l2 h) (fun h1 => f_Rows_copyTo_6 l0 l1 l2 0 h1)
noncomputable def f_Slips_mayStand_22  (h : xH) : Option Int :=
  some 1
noncomputable def f_Slips_mayStand (l1 : Int) (l2 : Int) (l3 : Int) (h : xH) : Option Int :=
  if l1 < 7 then (f_Slips_mayStand_22 h) else (xc1 (f_Rows_standsIn 14 (w32 (l1 - 7)) l2 l3 h) (fun r1 => if r1 = 0 then (some 0) else (f_Slips_mayStand_22 h)))
noncomputable def f_Walk_reach_180  (h : xH) : Option xH :=
  some h
noncomputable def f_Walk_reach_174 (l1 : Int) (l2 : Int) (l3 : Int) (l4 : Int) (l5 : Int) (l6 : Int) (h : xH) : Option ((Int × xH) ⊕ xH) :=
  xlet (w32 (l6 + 1)) (fun x1 => some (Sum.inl (x1, h)))
noncomputable def f_Walk_reach_s48 (l1 : Int) (l2 : Int) (l3 : Int) (l4 : Int) (l5 : Int) (l6 : Int) (h : xH) : Option ((Int × xH) ⊕ xH) :=
  if h l3 1 < w32 (l6 + l5) then (some (Sum.inr h)) else (xlet (w32 ((w32 (l4 * 13)) + l6)) (fun x1 => xlet (w32 ((w32 ((w32 (l2 * 13)) + l6)) + l5)) (fun x2 => xc1 (f_Slips_priceAt l1 55 l4 l3 l6 h) (fun r3 => if r3 = (-1) then (f_Walk_reach_174 l1 l2 l3 l4 l5 l6 h) else (if x1 < 0 then (f_Walk_reach_174 l1 l2 l3 l4 l5 l6 h) else (if x1 < 169 then (if x2 < 0 then (f_Walk_reach_174 l1 l2 l3 l4 l5 l6 h) else (if x2 < 169 then (xgd x1 169 (xgd x2 169 (if w32 ((h 57 x1) + r3) < h 57 x2 then (xgd x1 169 (xgd x2 169 (xlet (xup h 57 x2 (w32 ((h 57 x1) + r3))) (fun h4 => f_Walk_reach_174 l1 l2 l3 l4 l5 l6 h4)))) else (f_Walk_reach_174 l1 l2 l3 l4 l5 l6 h)))) else (f_Walk_reach_174 l1 l2 l3 l4 l5 l6 h))) else (f_Walk_reach_174 l1 l2 l3 l4 l5 l6 h)))))))
noncomputable def f_Walk_reach_48 (l1 : Int) (l2 : Int) (l3 : Int) (l4 : Int) (l5 : Int) (l6 : Int) (h : xH) : Option xH :=
  xc1 (xloop (fun s : (Int × xH) => f_Walk_reach_s48 l1 l2 l3 l4 l5 s.1 s.2) (l6, h)) (fun b => f_Walk_reach_180 b)
noncomputable def f_Walk_reach (l1 : Int) (l2 : Int) (l3 : Int) (h : xH) : Option xH :=
  xc1 (f_Slips_meantTaken l1 h) (fun r1 => xlet (w32 (l2 - r1)) (fun x2 => if x2 < 0 then (some h) else (xc1 (f_Slips_mayStand l1 55 x2 h) (fun r3 => if r3 = 0 then (some h) else (xc1 (f_Slips_typedTaken l1 h) (fun r4 => f_Walk_reach_48 l1 l2 l3 x2 r4 0 h))))))
noncomputable def f_Walk_fill_88 (l1 : Int) (l2 : Int) (h : xH) : Option xH :=
  xc1 (f_Walk_reach 3 l1 l2 h) (fun h1 => some h1)
noncomputable def f_Walk_fill_82 (l1 : Int) (l2 : Int) (l3 : Int) (h : xH) : Option ((Int × xH) ⊕ xH) :=
  xlet (w32 (l3 + 1)) (fun x1 => some (Sum.inl (x1, h)))
noncomputable def f_Walk_fill_s59 (l1 : Int) (l2 : Int) (l3 : Int) (h : xH) : Option ((Int × xH) ⊕ xH) :=
  xc1 (f_Slips_codes h) (fun r1 => if l3 < r1 then (if l3 = 3 then (f_Walk_fill_82 l1 l2 l3 h) else (xc1 (f_Walk_reach l3 l1 l2 h) (fun h2 => f_Walk_fill_82 l1 l2 l3 h2))) else (some (Sum.inr h)))
noncomputable def f_Walk_fill_59 (l1 : Int) (l2 : Int) (l3 : Int) (h : xH) : Option xH :=
  xc1 (xloop (fun s : (Int × xH) => f_Walk_fill_s59 l1 l2 s.1 s.2) (l3, h)) (fun b => f_Walk_fill_88 l1 l2 b)
noncomputable def f_Walk_fill_57 (l1 : Int) (l2 : Int) (h : xH) : Option xH :=
  f_Walk_fill_59 l1 l2 0 h
noncomputable def f_Walk_fill_51 (l1 : Int) (l2 : Int) (l3 : Int) (h : xH) : Option ((Int × xH) ⊕ xH) :=
  xlet (w32 (l3 + 1)) (fun x1 => some (Sum.inl (x1, h)))
noncomputable def f_Walk_fill_50 (l1 : Int) (l2 : Int) (l3 : Int) (s1 : Int) (s2 : Int) (h : xH) : Option ((Int × xH) ⊕ xH) :=
  xgd s1 169 (xlet (xup h 57 s1 s2) (fun h1 => f_Walk_fill_51 l1 l2 l3 h1))
noncomputable def f_Walk_fill_s2 (l1 : Int) (l2 : Int) (l3 : Int) (h : xH) : Option ((Int × xH) ⊕ xH) :=
  if h l2 1 < l3 then (some (Sum.inr h)) else (xlet (w32 ((w32 (l1 * 13)) + l3)) (fun x1 => if x1 < 0 then (f_Walk_fill_51 l1 l2 l3 h) else (if x1 < 169 then (if x1 = 0 then (f_Walk_fill_50 l1 l2 l3 x1 0 h) else (f_Walk_fill_50 l1 l2 l3 x1 1000000 h)) else (f_Walk_fill_51 l1 l2 l3 h))))
noncomputable def f_Walk_fill_2 (l1 : Int) (l2 : Int) (l3 : Int) (h : xH) : Option xH :=
  xc1 (xloop (fun s : (Int × xH) => f_Walk_fill_s2 l1 l2 s.1 s.2) (l3, h)) (fun b => f_Walk_fill_57 l1 l2 b)
noncomputable def f_Walk_fill (l1 : Int) (l2 : Int) (h : xH) : Option xH :=
  f_Walk_fill_2 l1 l2 0 h
noncomputable def f_Walk_sumUp_126 (s1 : Int) (s2 : Int) (h : xH) : Option xH :=
  xgd s1 13 (xlet (xup h 59 s1 s2) (fun h1 => some h1))
noncomputable def f_Walk_sumUp_70 (l1 : Int) (l3 : Int) (l4 : Int) (h : xH) : Option xH :=
  if l1 < 0 then (some h) else (if l1 < 13 then (if l1 < 13 then (xgd l1 13 (xlet (xup h 58 l1 l3) (fun h1 => if 0 < l1 then (xgd (w32 (l1 - 1)) 13 (f_Walk_sumUp_126 l1 (min l4 (h1 59 (w32 (l1 - 1)))) h1)) else (f_Walk_sumUp_126 l1 l4 h1)))) else (some h)) else (some h))
noncomputable def f_Walk_sumUp_55 (l1 : Int) (l2 : Int) (l3 : Int) (l5 : Int) (s0 : Int) (h : xH) : Option ((Int × Int × Int) ⊕ (Int × Int)) :=
  xlet (min l3 s0) (fun x1 => xlet (w32 (l5 + 1)) (fun x2 => some (Sum.inl (x1, s0, x2))))
noncomputable def f_Walk_sumUp_53 (l1 : Int) (l2 : Int) (l3 : Int) (l5 : Int) (h : xH) : Option ((Int × Int × Int) ⊕ (Int × Int)) :=
  f_Walk_sumUp_55 l1 l2 l3 l5 1000000 h
noncomputable def f_Walk_sumUp_s10 (l1 : Int) (l2 : Int) (l3 : Int) (l4 : Int) (l5 : Int) (h : xH) : Option ((Int × Int × Int) ⊕ (Int × Int)) :=
  if h l2 1 < l5 then (some (Sum.inr (l3, l4))) else (xlet (w32 ((w32 (l1 * 13)) + l5)) (fun x1 => if x1 < 0 then (f_Walk_sumUp_53 l1 l2 l3 l5 h) else (if x1 < 169 then (xgd x1 169 (f_Walk_sumUp_55 l1 l2 l3 l5 (h 57 x1) h)) else (f_Walk_sumUp_53 l1 l2 l3 l5 h))))
noncomputable def f_Walk_sumUp_10 (l1 : Int) (l2 : Int) (l3 : Int) (l4 : Int) (l5 : Int) (h : xH) : Option xH :=
  xc1 (xloop (fun s : (Int × Int × Int) => f_Walk_sumUp_s10 l1 l2 s.1 s.2.1 s.2.2 h) (l3, l4, l5)) (fun b => f_Walk_sumUp_70 l1 b.1 b.2 h)
noncomputable def f_Walk_sumUp (l1 : Int) (l2 : Int) (h : xH) : Option xH :=
  f_Walk_sumUp_10 l1 l2 1000000 1000000 0 h
noncomputable def f_Walk_isLeft_40  (h : xH) : Option Int :=
  some 1
noncomputable def f_Walk_isLeft_s8 (l1 : Int) (l2 : Int) (l3 : Int) (h : xH) : Option (Int ⊕ (Unit ⊕ Int)) :=
  if l1 < l3 then (some (Sum.inr (Sum.inl ()))) else (if l3 < 13 then (xgd l3 13 (if l2 < h 58 l3 then (xlet (w32 (l3 + 1)) (fun x1 => some (Sum.inl x1))) else (some (Sum.inr (Sum.inr 0))))) else (some (Sum.inr (Sum.inl ()))))
noncomputable def f_Walk_isLeft_8 (l1 : Int) (l2 : Int) (l3 : Int) (h : xH) : Option Int :=
  xc1 (xloop (fun s : Int => f_Walk_isLeft_s8 l1 l2 s h) l3) (fun q => xsw q (fun b => f_Walk_isLeft_40 h) (fun r => some r))
noncomputable def f_Walk_isLeft (l1 : Int) (l2 : Int) (h : xH) : Option Int :=
  xlet (max (w32 (l1 - 2)) 0) (fun x1 => f_Walk_isLeft_8 l1 l2 x1 h)
noncomputable def f_Met_keep (l1 : Int) (l2 : Int) (l3 : Int) (l4 : Int) (l5 : Int) (h : xH) : Option xH :=
  if h 49 5 < 0 then (some h) else (if h 49 5 < 2401 then (if l1 < 0 then (some h) else (if (xN l5 : Int) < w32 ((w32 (l1 + 1)) * 13) then (some h) else (xgd (h 49 5) 2401 (xlet (xup h 50 (h 49 5) l1) (fun h1 => xgd (h1 49 5) 2401 (xlet (xup h1 51 (h1 49 5) l2) (fun h2 => xgd (h2 49 5) 2401 (xgb l3 (xlet (xup h2 52 (h2 49 5) l3) (fun h3 => xgd (h3 49 5) 2401 (xgb l4 (xlet (xup h3 53 (h3 49 5) l4) (fun h4 => xgc (w32 (l1 * 13)) (w32 ((h4 49 5) * 13)) (h4 49 7) (xN l5 : Int) 31213 (xlet (xcp h4 l5 (w32 (l1 * 13)) 54 (w32 ((h4 49 5) * 13)) (h4 49 7)) (fun h5 => xlet (xup h5 49 5 (w32 ((h5 49 5) + 1))) (fun h6 => if l4 = 0 then (some h6) else (xlet (xup h6 49 6 (w32 ((h6 49 6) + 1))) (fun h7 => some h7)))))))))))))))))) else (some h))
noncomputable def f_Walk_descend_111  (h : xH) : Option (Int × xH) :=
  some (13, h)
noncomputable def f_Walk_descend_97 (l2 : Int) (l3 : Int) (l4 : Int) (l5 : Int) (l6 : Int) (h : xH) : Option ((Int × xH) ⊕ (xH ⊕ (Int × xH))) :=
  if l6 = 0 then (xlet (w32 (l5 + 1)) (fun x1 => some (Sum.inl (x1, h)))) else (some (Sum.inr (Sum.inr (l5, h))))
noncomputable def f_Walk_descend_88 (l2 : Int) (l3 : Int) (l4 : Int) (l5 : Int) (l6 : Int) (s1 : Int) (s2 : Int) (s3 : Int) (h : xH) : Option ((Int × xH) ⊕ (xH ⊕ (Int × xH))) :=
  xc1 (f_Met_keep s1 s2 s3 l6 57 h) (fun h1 => f_Walk_descend_97 l2 l3 l4 l5 l6 h1)
noncomputable def f_Walk_descend_s7 (l2 : Int) (l3 : Int) (l4 : Int) (l5 : Int) (h : xH) : Option ((Int × xH) ⊕ (xH ⊕ (Int × xH))) :=
  if h 55 1 < l5 then (some (Sum.inr (Sum.inl h))) else (if l5 < 13 then (xc1 (f_Walk_fill l5 l2 h) (fun h1 => xc1 (f_Walk_sumUp l5 l2 h1) (fun h2 => xc1 (f_Walk_isLeft l5 l3 h2) (fun r3 => if l4 = 0 then (f_Walk_descend_97 l2 l3 l4 l5 r3 h2) else (xc1 (f_Row_at 55 (w32 (l5 - 1)) h2) (fun r4 => if l5 = h2 55 1 then (f_Walk_descend_88 l2 l3 l4 l5 r3 l5 r4 1 h2) else (f_Walk_descend_88 l2 l3 l4 l5 r3 l5 r4 0 h2))))))) else (some (Sum.inr (Sum.inl h))))
noncomputable def f_Walk_descend_7 (l2 : Int) (l3 : Int) (l4 : Int) (l5 : Int) (h : xH) : Option (Int × xH) :=
  xc1 (xloop (fun s : (Int × xH) => f_Walk_descend_s7 l2 l3 l4 s.1 s.2) (l5, h)) (fun q => xsw q (fun b => f_Walk_descend_111 b) (fun r => some r))
noncomputable def f_Walk_descend (l1 : Int) (l2 : Int) (l3 : Int) (l4 : Int) (h : xH) : Option (Int × xH) :=
  xlet (max l1 0) (fun x1 => f_Walk_descend_7 l2 l3 l4 x1 h)
noncomputable def f_Walk_go_233  (h : xH) : Option xH :=
  some h
noncomputable def f_Walk_go_226 (l1 : Int) (l2 : Int) (l3 : Int) (l4 : Int) (l5 : Int) (s1 : Int) (s2 : Int) (h : xH) : Option ((Int × Int × xH) ⊕ xH) :=
  xgd s1 200 (xlet (xup h 61 s1 s2) (fun h1 => xlet (w32 (l5 + 1)) (fun x2 => some (Sum.inl (l4, x2, h1)))))
noncomputable def f_Walk_go_224 (l1 : Int) (l2 : Int) (l3 : Int) (l4 : Int) (l5 : Int) (s1 : Int) (h : xH) : Option ((Int × Int × xH) ⊕ xH) :=
  f_Walk_go_226 l1 l2 l3 l4 l5 s1 1000000 h
noncomputable def f_Walk_go_192 (l1 : Int) (l2 : Int) (l3 : Int) (l4 : Int) (l5 : Int) (l7 : Int) (s1 : Int) (s2 : Int) (h : xH) : Option ((Int × Int × xH) ⊕ xH) :=
  xgd s1 200 (xlet (xup h 60 s1 s2) (fun h1 => if l7 < 0 then (f_Walk_go_224 l1 l2 l3 l4 l5 l5 h1) else (if l7 < 13 then (xgd l7 13 (f_Walk_go_226 l1 l2 l3 l4 l5 l5 (h1 59 l7) h1)) else (f_Walk_go_224 l1 l2 l3 l4 l5 l5 h1))))
noncomputable def f_Walk_go_167 (l1 : Int) (l2 : Int) (l3 : Int) (l4 : Int) (l5 : Int) (l7 : Int) (l8 : Int) (s0 : Int) (h : xH) : Option ((Int × Int × xH) ⊕ xH) :=
  if s0 = 0 then (f_Walk_go_192 l1 l2 l3 l4 l5 l7 l5 1000000 h) else (xgd l8 169 (f_Walk_go_192 l1 l2 l3 l4 l5 l7 l5 (h 57 l8) h))
noncomputable def f_Walk_go_166 (l1 : Int) (l2 : Int) (l3 : Int) (l4 : Int) (l5 : Int) (l7 : Int) (l8 : Int) (h : xH) : Option ((Int × Int × xH) ⊕ xH) :=
  f_Walk_go_167 l1 l2 l3 l4 l5 l7 l8 0 h
noncomputable def f_Walk_go_109 (l1 : Int) (l2 : Int) (l3 : Int) (l4 : Int) (l5 : Int) (h : xH) : Option ((Int × Int × xH) ⊕ xH) :=
  xlet (min l4 (h 55 1)) (fun x1 => xlet (w32 ((w32 (x1 * 13)) + (h l1 1))) (fun x2 => if x1 = h 55 1 then (if x2 < 0 then (f_Walk_go_166 l1 l2 l3 l4 l5 x1 x2 h) else (if x2 < 169 then (f_Walk_go_167 l1 l2 l3 l4 l5 x1 x2 1 h) else (f_Walk_go_166 l1 l2 l3 l4 l5 x1 x2 h))) else (f_Walk_go_166 l1 l2 l3 l4 l5 x1 x2 h)))
noncomputable def f_Walk_go_s24 (l1 : Int) (l2 : Int) (l3 : Int) (l4 : Int) (l5 : Int) (h : xH) : Option ((Int × Int × xH) ⊕ xH) :=
  if l5 < h 5 2 then (if l5 < 200 then (if l5 < 200 then (xc1 (f_Rows_copyTo 5 l5 55 h) (fun h1 => xc1 (f_Rows_shared 5 l5 h1) (fun r2 => if r2 < l4 then (xc2 (f_Walk_descend (w32 (r2 + 1)) l1 l2 l3 h1) (fun r3 h4 => f_Walk_go_109 l1 l2 l3 r3 l5 h4)) else (f_Walk_go_109 l1 l2 l3 l4 l5 h1)))) else (some (Sum.inr h))) else (some (Sum.inr h))) else (some (Sum.inr h))
noncomputable def f_Walk_go_24 (l1 : Int) (l2 : Int) (l3 : Int) (l4 : Int) (l5 : Int) (h : xH) : Option xH :=
  xc1 (xloop (fun s : (Int × Int × xH) => f_Walk_go_s24 l1 l2 l3 s.1 s.2.1 s.2.2) (l4, l5, h)) (fun b => f_Walk_go_233 b)
noncomputable def f_Walk_go_17 (l1 : Int) (l2 : Int) (l3 : Int) (h : xH) : Option xH :=
  f_Walk_go_24 l1 l2 l3 13 0 h
noncomputable def f_Walk_go (l1 : Int) (l2 : Int) (l3 : Int) (h : xH) : Option xH :=
  if l3 = 0 then (f_Walk_go_17 l1 l2 l3 h) else (xc1 (f_Met_clear (w32 ((h l1 1) + 1)) h) (fun h1 => f_Walk_go_17 l1 l2 l3 h1))
noncomputable def f_Lex_share (l1 : Int) (h : xH) : Option Int :=
  xgp (vf_n32 (FP.fdiv (FP.i2f (Int32.ofInt (h 4 2))) (1148846080 : UInt32))) (xc1 (f_Lex_countOf l1 h) (fun r1 => xgp (vf_n32 (FP.fmul (FP.fdiv (FP.i2f (Int32.ofInt (h 4 2))) (1148846080 : UInt32)) (FP.i2f (Int32.ofInt r1)))) (some ((FP.f2i (FP.fmul (FP.fdiv (FP.i2f (Int32.ofInt (h 4 2))) (1148846080 : UInt32)) (FP.i2f (Int32.ofInt r1)))).toInt))))
noncomputable def f_Found_isAhead_66  (h : xH) : Option Int :=
  some 1
noncomputable def f_Found_isAhead (l0 : Int) (l1 : Int) (l2 : Int) (l3 : Int) (h : xH) : Option Int :=
  if l3 < 0 then (some 0) else (if l3 < 200 then (xgd l3 200 (xgd l3 200 (xlet (w32 ((h (l0 + 2) l3) - (h (l0 + 3) l3))) (fun x1 => if l2 < x1 then (f_Found_isAhead_66 h) else (if l2 = x1 then (xc1 (f_Lex_countOf l1 h) (fun r2 => xgd l3 200 (xc1 (f_Lex_countOf (h (l0 + 1) l3) h) (fun r3 => if r3 < r2 then (f_Found_isAhead_66 h) else (some 0))))) else (some 0)))))) else (some 0))
noncomputable def f_Found_move (l0 : Int) (l1 : Int) (l2 : Int) (l3 : Int) (h : xH) : Option xH :=
  if l1 < 0 then (some h) else (if l2 < 0 then (some h) else (if l2 < l3 then (if l1 < 200 then (if l2 < 200 then (xgd l1 200 (xgd l2 200 (xlet (xup h (l0 + 1) l2 (h (l0 + 1) l1)) (fun h1 => xgd l1 200 (xgd l2 200 (xlet (xup h1 (l0 + 2) l2 (h1 (l0 + 2) l1)) (fun h2 => xgd l1 200 (xgd l2 200 (xlet (xup h2 (l0 + 3) l2 (h2 (l0 + 3) l1)) (fun h3 => some h3)))))))))) else (some h)) else (some h)) else (some h)))
noncomputable def f_Found_lay_54 (l0 : Int) (l1 : Int) (l2 : Int) (l3 : Int) (l4 : Int) (l5 : Int) (h : xH) : Option xH :=
  if l5 < l3 then (if l5 < 200 then (xgd l5 200 (xlet (xup h (l0 + 1) l5 l1) (fun h1 => xgd l5 200 (xlet (xup h1 (l0 + 2) l5 l2) (fun h2 => xgd l5 200 (xlet (xup h2 (l0 + 3) l5 l4) (fun h3 => xlet (xup h3 l0 4 (min (w32 ((h3 l0 4) + 1)) l3)) (fun h4 => some h4)))))))) else (some h)) else (some h)
noncomputable def f_Found_lay_s16 (l0 : Int) (l1 : Int) (l2 : Int) (l3 : Int) (l4 : Int) (l5 : Int) (h : xH) : Option ((Int × xH) ⊕ (Int × xH)) :=
  if 0 < l5 then (xc1 (f_Found_isAhead l0 l1 (w32 (l2 - l4)) (w32 (l5 - 1)) h) (fun r1 => if r1 = 0 then (some (Sum.inr (l5, h))) else (xc1 (f_Found_move l0 (w32 (l5 - 1)) l5 l3 h) (fun h2 => xlet (w32 (l5 + (-1))) (fun x3 => some (Sum.inl (x3, h2))))))) else (some (Sum.inr (l5, h)))
noncomputable def f_Found_lay_16 (l0 : Int) (l1 : Int) (l2 : Int) (l3 : Int) (l4 : Int) (l5 : Int) (h : xH) : Option xH :=
  xc1 (xloop (fun s : (Int × xH) => f_Found_lay_s16 l0 l1 l2 l3 l4 s.1 s.2) (l5, h)) (fun b => f_Found_lay_54 l0 l1 l2 l3 l4 b.1 b.2)
noncomputable def f_Found_lay (l0 : Int) (l1 : Int) (l2 : Int) (l3 : Int) (h : xH) : Option xH :=
  xc1 (f_Lex_share l1 h) (fun r1 => xlet (h l0 4) (fun x2 => f_Found_lay_16 l0 l1 l2 l3 r1 x2 h))
noncomputable def f_Found_gather_61 (l0 : Int) (h : xH) : Option (Int × xH) :=
  some (h l0 4, h)
noncomputable def f_Found_gather_55 (l0 : Int) (l1 : Int) (l2 : Int) (l3 : Int) (l4 : Int) (h : xH) : Option ((Int × xH) ⊕ xH) :=
  xlet (w32 (l4 + 1)) (fun x1 => some (Sum.inl (x1, h)))
noncomputable def f_Found_gather_s8 (l0 : Int) (l1 : Int) (l2 : Int) (l3 : Int) (l4 : Int) (h : xH) : Option ((Int × xH) ⊕ xH) :=
  if l4 < h 5 2 then (if l4 < (xN l1 : Int) then (xgd l4 (xN l1 : Int) (if l2 < h l1 l4 then (f_Found_gather_55 l0 l1 l2 l3 l4 h) else (xgd l4 (xN l1 : Int) (xc1 (f_Found_lay l0 l4 (h l1 l4) (min l3 200) h) (fun h1 => f_Found_gather_55 l0 l1 l2 l3 l4 h1))))) else (some (Sum.inr h))) else (some (Sum.inr h))
noncomputable def f_Found_gather_8 (l0 : Int) (l1 : Int) (l2 : Int) (l3 : Int) (l4 : Int) (h : xH) : Option (Int × xH) :=
  xc1 (xloop (fun s : (Int × xH) => f_Found_gather_s8 l0 l1 l2 l3 s.1 s.2) (l4, h)) (fun b => f_Found_gather_61 l0 b)
noncomputable def f_Found_gather (l0 : Int) (l1 : Int) (l2 : Int) (l3 : Int) (h : xH) : Option (Int × xH) :=
  xlet (xup h l0 4 0) (fun h1 => f_Found_gather_8 l0 l1 l2 l3 0 h1)
noncomputable def f_WM_near (l1 : Int) (h : xH) : Option (Int × xH) :=
  xc2 (f_Tape_takeRow 23 h) (fun r1 h2 => if r1 = 0 then (some ((-2), h2)) else (xc1 (f_WM_isNoBound l1 h2) (fun r3 => if r3 = 0 then (xc1 (f_Walk_go 23 l1 1 h2) (fun h4 => xc2 (f_Found_gather 62 60 l1 200 h4) (fun r5 h6 => some (r5, h6)))) else (some ((-2), h2)))))
noncomputable def f_WM_nearest (l1 : Int) (h : xH) : Option (Int × xH) :=
  xc2 (f_Tape_takeRow 23 h) (fun r1 h2 => if r1 = 0 then (some ((-2), h2)) else (if l1 < 1 then (some ((-2), h2)) else (if 200 < l1 then (some ((-2), h2)) else (xc1 (f_Walk_go 23 1000000 0 h2) (fun h3 => xc2 (f_Found_gather 62 60 1000000 l1 h3) (fun r4 h5 => some (r4, h5)))))))
noncomputable def f_WM_complete (l1 : Int) (h : xH) : Option (Int × xH) :=
  xc2 (f_Tape_takeRow 23 h) (fun r1 h2 => if r1 = 0 then (some ((-2), h2)) else (xc1 (f_WM_isNoBound l1 h2) (fun r3 => if r3 = 0 then (xc1 (f_Walk_go 23 l1 1 h2) (fun h4 => xc2 (f_Found_gather 62 61 l1 200 h4) (fun r5 h6 => some (r5, h6)))) else (some ((-2), h2)))))
noncomputable def f_Found_tell (l0 : Int) (l1 : Int) (l2 : Int) (h : xH) : Option Int :=
  if l1 < 0 then (some (-1)) else (if l1 < h l0 4 then (if l1 < 200 then (if l2 = 0 then (xgd l1 200 (some (h (l0 + 1) l1))) else (if l2 = 1 then (xgd l1 200 (some (h (l0 + 2) l1))) else (xgd l1 200 (some (h (l0 + 3) l1))))) else (some (-1))) else (some (-1)))
noncomputable def f_WM_found_9  (h : xH) : Option Int :=
  some (-2)
noncomputable def f_WM_found (l1 : Int) (l2 : Int) (h : xH) : Option Int :=
  if l2 < 0 then (f_WM_found_9 h) else (if 2 < l2 then (f_WM_found_9 h) else (xc1 (f_Found_tell 62 l1 l2 h) (fun r1 => some r1)))
noncomputable def f_Met_stateAt (l1 : Int) (l2 : Int) (h : xH) : Option Int :=
  if l1 < 0 then (some (-1)) else (if l1 < h 49 5 then (if l2 < 0 then (some (-1)) else (if l2 < h 49 7 then (xlet (w32 ((w32 (l1 * 13)) + l2)) (fun x1 => if x1 < 0 then (some (-1)) else (if x1 < 31213 then (xgd x1 31213 (some (h 54 x1))) else (some (-1))))) else (some (-1)))) else (some (-1)))
noncomputable def f_Met_least_30 (l2 : Int) (h : xH) : Option Int :=
  some l2
noncomputable def f_Met_least_s5 (l1 : Int) (l2 : Int) (l3 : Int) (h : xH) : Option ((Int × Int) ⊕ Int) :=
  if l3 < h 49 7 then (xc1 (f_Met_stateAt l1 l3 h) (fun r1 => xlet (min l2 r1) (fun x2 => xlet (w32 (l3 + 1)) (fun x3 => some (Sum.inl (x2, x3)))))) else (some (Sum.inr l2))
noncomputable def f_Met_least_5 (l1 : Int) (l2 : Int) (l3 : Int) (h : xH) : Option Int :=
  xc1 (xloop (fun s : (Int × Int) => f_Met_least_s5 l1 s.1 s.2 h) (l2, l3)) (fun b => f_Met_least_30 b h)
noncomputable def f_Met_least (l1 : Int) (h : xH) : Option Int :=
  f_Met_least_5 l1 1000000 0 h
noncomputable def f_Met_tell (l1 : Int) (l2 : Int) (h : xH) : Option Int :=
  if l1 < 0 then (some (-1)) else (if l1 < h 49 5 then (if l1 < 2401 then (if l2 = 0 then (xgd l1 2401 (some (h 50 l1))) else (if l2 = 1 then (xgd l1 2401 (some (h 51 l1))) else (if l2 = 2 then (xc1 (f_Met_least l1 h) (fun r1 => some r1)) else (if l2 = 3 then (xgd l1 2401 (if h 53 l1 = 0 then (some 0) else (some 1))) else (if l2 = 4 then (xgd l1 2401 (if h 52 l1 = 0 then (some 0) else (some 1))) else (xc1 (f_Met_stateAt l1 (w32 (l2 - 5)) h) (fun r2 => some r2))))))) else (some (-1))) else (some (-1)))
noncomputable def f_WM_node (l1 : Int) (l2 : Int) (h : xH) : Option Int :=
  if l2 < 0 then (some (-2)) else (xc1 (f_Met_tell l1 l2 h) (fun r1 => some r1))
noncomputable def f_WM_pair  (h : xH) : Option (Int × xH) :=
  xc2 (f_Tape_takeTwo 12 21 23 h) (fun r1 h2 => if r1 = 0 then (some ((-2), h2)) else (xc1 (f_Rows_isFull 40 h2) (fun r3 => if r3 = 0 then (xc1 (f_Rows_isFull 43 h2) (fun r4 => if r4 = 0 then (xc1 (f_Rows_append 40 21 h2) (fun h5 => xc1 (f_Rows_append 43 23 h5) (fun h6 => some (w32 ((h6 40 2) - 1), h6)))) else (some ((-4), h2)))) else (some ((-4), h2)))))
noncomputable def f_Arr_fill_20  (h : xH) : Option xH :=
  some h
noncomputable def f_Arr_fill_s5 (l0 : Int) (l1 : Int) (l2 : Int) (l3 : Int) (h : xH) : Option ((Int × xH) ⊕ xH) :=
  if l2 < l3 then (xgd l2 (xN l0 : Int) (xlet (xup h l0 l2 l1) (fun h1 => xlet (w32 (l2 + 1)) (fun x2 => some (Sum.inl (x2, h1)))))) else (some (Sum.inr h))
noncomputable def f_Arr_fill_5 (l0 : Int) (l1 : Int) (l2 : Int) (l3 : Int) (h : xH) : Option xH :=
  xc1 (xloop (fun s : (Int × xH) => f_Arr_fill_s5 l0 l1 s.1 l3 s.2) (l2, h)) (fun b => f_Arr_fill_20 b)
noncomputable def f_Arr_fill (l0 : Int) (l1 : Int) (h : xH) : Option xH :=
  xlet (xN l0 : Int) (fun x1 => f_Arr_fill_5 l0 l1 0 x1 h)
noncomputable def f_WM_readPair (l1 : Int) (h : xH) : Option xH :=
  xc1 (f_Rows_copyTo 40 l1 21 h) (fun h1 => xc1 (f_Rows_copyTo 43 l1 23 h1) (fun h2 => some h2))
noncomputable def f_WM_noteWay_103 (l2 : Int) (h : xH) : Option (Int × xH) :=
  xgb l2 (some (l2, h))
noncomputable def f_WM_noteWay_97 (l1 : Int) (l2 : Int) (l3 : Int) (h : xH) : Option ((Int × Int × xH) ⊕ (Int × xH)) :=
  xlet (w32 (l3 + 1)) (fun x1 => some (Sum.inl (l2, x1, h)))
noncomputable def f_WM_noteWay_87 (l1 : Int) (l3 : Int) (l4 : Int) (l5 : Int) (s0 : Int) (h : xH) : Option ((Int × Int × xH) ⊕ (Int × xH)) :=
  xgd l5 960 (xlet (xup h 46 l5 l4) (fun h1 => f_WM_noteWay_97 l1 s0 l3 h1))
noncomputable def f_WM_noteWay_86 (l1 : Int) (l3 : Int) (l4 : Int) (l5 : Int) (h : xH) : Option ((Int × Int × xH) ⊕ (Int × xH)) :=
  f_WM_noteWay_87 l1 l3 l4 l5 0 h
noncomputable def f_WM_noteWay_46 (l1 : Int) (l2 : Int) (l3 : Int) (l4 : Int) (h : xH) : Option ((Int × Int × xH) ⊕ (Int × xH)) :=
  xlet (w32 (l1 + l3)) (fun x1 => if x1 < 0 then (f_WM_noteWay_97 l1 l2 l3 h) else (if x1 < 960 then (if l2 = 0 then (f_WM_noteWay_86 l1 l3 l4 x1 h) else (xgd x1 960 (if h 46 x1 = l4 then (f_WM_noteWay_87 l1 l3 l4 x1 1 h) else (f_WM_noteWay_86 l1 l3 l4 x1 h)))) else (f_WM_noteWay_97 l1 l2 l3 h)))
noncomputable def f_WM_noteWay_s4 (l1 : Int) (l2 : Int) (l3 : Int) (h : xH) : Option ((Int × Int × xH) ⊕ (Int × xH)) :=
  if l3 < 24 then (xc1 (f_Way_codeAt 34 l3 h) (fun r1 => if r1 < 0 then (f_WM_noteWay_46 l1 l2 l3 r1 h) else (if r1 < 7 then (xgd r1 7 (xgd r1 7 (xlet (xup h 47 r1 (w32 ((h 47 r1) + 1))) (fun h2 => f_WM_noteWay_46 l1 l2 l3 r1 h2)))) else (f_WM_noteWay_46 l1 l2 l3 r1 h)))) else (some (Sum.inr (l2, h)))
noncomputable def f_WM_noteWay_4 (l1 : Int) (l2 : Int) (l3 : Int) (h : xH) : Option (Int × xH) :=
  xc1 (xloop (fun s : (Int × Int × xH) => f_WM_noteWay_s4 l1 s.1 s.2.1 s.2.2) (l2, l3, h)) (fun b => f_WM_noteWay_103 b.1 b.2)
noncomputable def f_WM_noteWay (l1 : Int) (h : xH) : Option (Int × xH) :=
  f_WM_noteWay_4 l1 1 0 h
noncomputable def f_WM_findWays_78 (l1 : Int) (h : xH) : Option (Int × xH) :=
  xgb l1 (some (l1, h))
noncomputable def f_WM_findWays_72 (l1 : Int) (l2 : Int) (h : xH) : Option ((Int × Int × xH) ⊕ (Int × xH)) :=
  xlet (w32 (l2 + 1)) (fun x1 => some (Sum.inl (l1, x1, h)))
noncomputable def f_WM_findWays_s12 (l1 : Int) (l2 : Int) (h : xH) : Option ((Int × Int × xH) ⊕ (Int × xH)) :=
  if l2 < h 40 2 then (xc1 (f_WM_readPair l2 h) (fun h1 => xc2 (f_Way_measure 34 21 23 h1) (fun r2 h3 => xc1 (f_Way_trace 34 21 23 h3) (fun h4 => xc2 (f_WM_noteWay (w32 (l2 * 24)) h4) (fun r5 h6 => if r5 = 0 then (f_WM_findWays_72 0 l2 h6) else (f_WM_findWays_72 l1 l2 h6)))))) else (some (Sum.inr (l1, h)))
noncomputable def f_WM_findWays_12 (l1 : Int) (l2 : Int) (h : xH) : Option (Int × xH) :=
  xc1 (xloop (fun s : (Int × Int × xH) => f_WM_findWays_s12 s.1 s.2.1 s.2.2) (l1, l2, h)) (fun b => f_WM_findWays_78 b.1 b.2)
noncomputable def f_WM_findWays  (h : xH) : Option (Int × xH) :=
  xc1 (f_Arr_fill 47 0 h) (fun h1 => f_WM_findWays_12 1 0 h1)
noncomputable def f_Slips_setByCounts_73  (h : xH) : Option (Int × xH) :=
  some (1, h)
noncomputable def f_Slips_setByCounts_s36 (l1 : Int) (l2 : Int) (l3 : Int) (h : xH) : Option ((Int × xH) ⊕ xH) :=
  if 6 < l3 then (some (Sum.inr h)) else (if l3 < (xN l1 : Int) then (xgd l3 (xN l1 : Int) (xgp (l2 ≠ 0) (xgd l3 10 (xlet (xup h 10 l3 (w32 (200 - (xdiv (w32 (180 * (h l1 l3))) l2)))) (fun h1 => xlet (w32 (l3 + 1)) (fun x2 => some (Sum.inl (x2, h1)))))))) else (some (Sum.inr h)))
noncomputable def f_Slips_setByCounts_36 (l1 : Int) (l2 : Int) (l3 : Int) (h : xH) : Option (Int × xH) :=
  xc1 (xloop (fun s : (Int × xH) => f_Slips_setByCounts_s36 l1 l2 s.1 s.2) (l3, h)) (fun b => f_Slips_setByCounts_73 b)
noncomputable def f_Slips_setByCounts_28 (l1 : Int) (l2 : Int) (h : xH) : Option (Int × xH) :=
  if 0 < l2 then (f_Slips_setByCounts_36 l1 l2 1 h) else (some (0, h))
noncomputable def f_Slips_setByCounts_s4 (l1 : Int) (l2 : Int) (l3 : Int) (h : xH) : Option ((Int × Int) ⊕ Int) :=
  if 6 < l3 then (some (Sum.inr l2)) else (if l3 < (xN l1 : Int) then (xgd l3 (xN l1 : Int) (xlet (w32 (l2 + (h l1 l3))) (fun x1 => xlet (w32 (l3 + 1)) (fun x2 => some (Sum.inl (x1, x2)))))) else (some (Sum.inr l2)))
noncomputable def f_Slips_setByCounts_4 (l1 : Int) (l2 : Int) (l3 : Int) (h : xH) : Option (Int × xH) :=
  xc1 (xloop (fun s : (Int × Int) => f_Slips_setByCounts_s4 l1 s.1 s.2 h) (l2, l3)) (fun b => f_Slips_setByCounts_28 l1 b h)
noncomputable def f_Slips_setByCounts (l1 : Int) (h : xH) : Option (Int × xH) :=
  f_Slips_setByCounts_4 l1 0 1 h
noncomputable def f_WM_learn_75 (l1 : Int) (h : xH) : Option (Int × xH) :=
  some (l1, h)
noncomputable def f_WM_learn_68 (l1 : Int) (s0 : Int) (h : xH) : Option ((Int × Int × xH) ⊕ (Int × xH)) :=
  xlet (w32 (l1 + 1)) (fun x1 => some (Sum.inl (x1, s0, h)))
noncomputable def f_WM_learn_67 (l1 : Int) (h : xH) : Option ((Int × Int × xH) ⊕ (Int × xH)) :=
  f_WM_learn_68 l1 0 h
noncomputable def f_WM_learn_s26 (l1 : Int) (l2 : Int) (h : xH) : Option ((Int × Int × xH) ⊕ (Int × xH)) :=
  if l2 = 0 then (some (Sum.inr (l1, h))) else (if l1 < 20 then (xc2 (f_WM_findWays h) (fun r1 h2 => xc2 (f_Slips_setByCounts 47 h2) (fun r3 h4 => if r3 = 0 then (f_WM_learn_67 l1 h4) else (if r1 = 0 then (f_WM_learn_68 l1 1 h4) else (f_WM_learn_67 l1 h4))))) else (some (Sum.inr (l1, h))))
noncomputable def f_WM_learn_26 (l1 : Int) (l2 : Int) (h : xH) : Option (Int × xH) :=
  xc1 (xloop (fun s : (Int × Int × xH) => f_WM_learn_s26 s.1 s.2.1 s.2.2) (l1, l2, h)) (fun b => f_WM_learn_75 b.1 b.2)
noncomputable def f_WM_learn_25 (l1 : Int) (s0 : Int) (h : xH) : Option (Int × xH) :=
  f_WM_learn_26 l1 s0 h
noncomputable def f_WM_learn  (h : xH) : Option (Int × xH) :=
  xc1 (f_Arr_fill 46 (-1) h) (fun h1 => if 0 < h1 40 2 then (f_WM_learn_25 0 1 h1) else (f_WM_learn_25 0 0 h1))
noncomputable def f_WM_spread_44 (l1 : Int) (h : xH) : Option (Int × xH) :=
  some (l1, h)
noncomputable def f_WM_spread_s4 (l1 : Int) (l2 : Int) (h : xH) : Option ((Int × Int × xH) ⊕ (Int × xH)) :=
  if l2 < h 40 2 then (xc1 (f_WM_readPair l2 h) (fun h1 => xc2 (f_Way_measure 34 21 23 h1) (fun r2 h3 => xlet (w32 (l1 + r2)) (fun x4 => xlet (w32 (l2 + 1)) (fun x5 => some (Sum.inl (x4, x5, h3))))))) else (some (Sum.inr (l1, h)))
noncomputable def f_WM_spread_4 (l1 : Int) (l2 : Int) (h : xH) : Option (Int × xH) :=
  xc1 (xloop (fun s : (Int × Int × xH) => f_WM_spread_s4 s.1 s.2.1 s.2.2) (l1, l2, h)) (fun b => f_WM_spread_44 b.1 b.2)
noncomputable def f_WM_spread  (h : xH) : Option (Int × xH) :=
  f_WM_spread_4 0 0 h
noncomputable def f_Rows_clear (l0 : Int) (h : xH) : Option xH :=
  xlet (xup h l0 2 0) (fun h1 => some h1)
noncomputable def f_Tape_takeText_77 (l3 : Int) (l4 : Int) (h : xH) : Option (Int × xH) :=
  if l3 < l4 then (some (1, h)) else (some (0, h))
noncomputable def f_Tape_takeText_s20 (l1 : Int) (l2 : Int) (l3 : Int) (l4 : Int) (l5 : Int) (h : xH) : Option ((Int × Int × xH) ⊕ ((Int × xH) ⊕ (Int × xH))) :=
  if l5 < 12 then (if l3 < l4 then (some (Sum.inr (Sum.inl (l4, h)))) else (xc1 (f_Tape_seek 32 l4 l3 h) (fun r1 => xc2 (f_Tape_read l4 r1 12 l2 h) (fun r2 h3 => if r2 = 0 then (some (Sum.inr (Sum.inr (0, h3)))) else (xc1 (f_Rows_append l1 l2 h3) (fun h4 => xlet (w32 (r1 + 1)) (fun x5 => xlet (w32 (l5 + 1)) (fun x6 => some (Sum.inl (x5, x6, h4)))))))))) else (some (Sum.inr (Sum.inl (l4, h))))
noncomputable def f_Tape_takeText_20 (l1 : Int) (l2 : Int) (l3 : Int) (l4 : Int) (l5 : Int) (h : xH) : Option (Int × xH) :=
  xc1 (xloop (fun s : (Int × Int × xH) => f_Tape_takeText_s20 l1 l2 l3 s.1 s.2.1 s.2.2) (l4, l5, h)) (fun q => xsw q (fun b => f_Tape_takeText_77 l3 b.1 b.2) (fun r => some r))
noncomputable def f_Tape_takeText (l1 : Int) (l2 : Int) (h : xH) : Option (Int × xH) :=
  xlet (h 2 1) (fun x1 => xlet (xup h 2 1 0) (fun h2 => xc1 (f_Rows_clear l1 h2) (fun h3 => f_Tape_takeText_20 l1 l2 x1 0 0 h3)))
noncomputable def f_Mend_clear (l1 : Int) (h : xH) : Option xH :=
  xlet (xup h 70 6 (max 0 (min l1 12))) (fun h1 => xlet (xup h1 70 7 0) (fun h2 => xc1 (f_Arr_fill 71 (-1) h2) (fun h3 => xc1 (f_Arr_fill 74 0 h3) (fun h4 => some h4))))
noncomputable def f_Mend_cellOf (l1 : Int) (l2 : Int) (h : xH) : Option Int :=
  if l1 < 0 then (some (-1)) else (if l1 < 5 then (if l2 < 0 then (some (-1)) else (if l2 < h 70 6 then (if l2 < 12 then (some (w32 ((w32 (l1 * 12)) + l2))) else (some (-1))) else (some (-1)))) else (some (-1)))
noncomputable def f_Mend_offer (l1 : Int) (l2 : Int) (l3 : Int) (l4 : Int) (l5 : Int) (h : xH) : Option xH :=
  xc1 (f_Mend_cellOf l1 l2 h) (fun r1 => if r1 = (-1) then (some h) else (xgd r1 60 (xlet (xup h 71 r1 l3) (fun h2 => xgd r1 60 (xlet (xup h2 72 r1 l4) (fun h3 => xgd r1 60 (xlet (xup h3 73 r1 l5) (fun h4 => some h4))))))))
noncomputable def f_Mend_offers (l1 : Int) (l2 : Int) (h : xH) : Option Int :=
  xc1 (f_Mend_cellOf l1 l2 h) (fun r1 => if r1 = (-1) then (some 0) else (xgd r1 60 (if h 71 r1 = (-1) then (some 0) else (some 1))))
noncomputable def f_Slips_kindPrice (l1 : Int) (h : xH) : Option Int :=
  if l1 < 0 then (some 0) else (if l1 < 10 then (xgd l1 10 (some (h 10 l1))) else (some 0))
noncomputable def f_WM_offerSplit_117 (l1 : Int) (h : xH) : Option xH :=
  xc1 (f_Lex_numberOf 21 h) (fun r1 => if r1 = (-1) then (some h) else (xc1 (f_Slips_kindPrice 8 h) (fun r2 => xc1 (f_Mend_offer 2 l1 r2 r1 (-1) h) (fun h3 => some h3))))
noncomputable def f_WM_offerSplit_s78 (l1 : Int) (l2 : Int) (h : xH) : Option ((Int × xH) ⊕ xH) :=
  xc1 (f_Rows_sizeOf 25 (w32 (l1 + 1)) h) (fun r1 => if l2 < r1 then (xc1 (f_Rows_at 25 (w32 (l1 + 1)) l2 h) (fun r2 => xc2 (f_Row_append 21 r2 h) (fun r3 h4 => xlet (w32 (l2 + 1)) (fun x5 => some (Sum.inl (x5, h4)))))) else (some (Sum.inr h)))
noncomputable def f_WM_offerSplit_78 (l1 : Int) (l2 : Int) (h : xH) : Option xH :=
  xc1 (xloop (fun s : (Int × xH) => f_WM_offerSplit_s78 l1 s.1 s.2) (l2, h)) (fun b => f_WM_offerSplit_117 l1 b)
noncomputable def f_WM_offerSplit_39 (l1 : Int) (h : xH) : Option xH :=
  xc1 (f_Rows_sizeOf 25 l1 h) (fun r1 => xc1 (f_Rows_sizeOf 25 (w32 (l1 + 1)) h) (fun r2 => if 12 < w32 (r1 + r2) then (some h) else (xc1 (f_Rows_copyTo 25 l1 21 h) (fun h3 => f_WM_offerSplit_78 l1 0 h3))))
noncomputable def f_WM_offerSplit (l1 : Int) (h : xH) : Option xH :=
  if w32 (l1 + 1) < h 25 2 then (xc1 (f_Mend_offers 0 l1 h) (fun r1 => if r1 = 0 then (f_WM_offerSplit_39 l1 h) else (xc1 (f_Mend_offers 0 (w32 (l1 + 1)) h) (fun r2 => if r2 = 0 then (f_WM_offerSplit_39 l1 h) else (some h))))) else (some h)
noncomputable def f_WM_offerJoin_145  (h : xH) : Option xH :=
  some h
noncomputable def f_WM_offerJoin_139 (l1 : Int) (l2 : Int) (h : xH) : Option ((Int × xH) ⊕ (xH ⊕ xH)) :=
  xlet (w32 (l2 + 1)) (fun x1 => some (Sum.inl (x1, h)))
noncomputable def f_WM_offerJoin_81 (l1 : Int) (l2 : Int) (h : xH) : Option ((Int × xH) ⊕ (xH ⊕ xH)) :=
  xc1 (f_Lex_numberOf 21 h) (fun r1 => xc1 (f_Lex_numberOf 23 h) (fun r2 => if r1 = (-1) then (f_WM_offerJoin_139 l1 l2 h) else (if r2 = (-1) then (f_WM_offerJoin_139 l1 l2 h) else (xc1 (f_Slips_kindPrice 9 h) (fun r3 => xc1 (f_Mend_offer 3 l1 r3 r1 r2 h) (fun h4 => some (Sum.inr (Sum.inr h4))))))))
noncomputable def f_WM_offerJoin_58 (l1 : Int) (l2 : Int) (l3 : Int) (s0 : Int) (h : xH) : Option ((Int × xH) ⊕ xH) :=
  xc1 (f_Rows_at 25 l1 l3 h) (fun r1 => xc2 (f_Row_append s0 r1 h) (fun r2 h3 => xlet (w32 (l3 + 1)) (fun x4 => some (Sum.inl (x4, h3)))))
noncomputable def f_WM_offerJoin_s30 (l1 : Int) (l2 : Int) (l3 : Int) (h : xH) : Option ((Int × xH) ⊕ xH) :=
  xc1 (f_Rows_sizeOf 25 l1 h) (fun r1 => if l3 < r1 then (if l3 < l2 then (f_WM_offerJoin_58 l1 l2 l3 21 h) else (f_WM_offerJoin_58 l1 l2 l3 23 h)) else (some (Sum.inr h)))
noncomputable def f_WM_offerJoin_30 (l1 : Int) (l2 : Int) (l3 : Int) (h : xH) : Option ((Int × xH) ⊕ (xH ⊕ xH)) :=
  xc1 (xloop (fun s : (Int × xH) => f_WM_offerJoin_s30 l1 l2 s.1 s.2) (l3, h)) (fun b => f_WM_offerJoin_81 l1 l2 b)
noncomputable def f_WM_offerJoin_s2 (l1 : Int) (l2 : Int) (h : xH) : Option ((Int × xH) ⊕ (xH ⊕ xH)) :=
  xc1 (f_Rows_sizeOf 25 l1 h) (fun r1 => if l2 < r1 then (xc1 (f_Row_clear 21 h) (fun h2 => xc1 (f_Row_clear 23 h2) (fun h3 => f_WM_offerJoin_30 l1 l2 0 h3))) else (some (Sum.inr (Sum.inl h))))
noncomputable def f_WM_offerJoin_2 (l1 : Int) (l2 : Int) (h : xH) : Option xH :=
  xc1 (xloop (fun s : (Int × xH) => f_WM_offerJoin_s2 l1 s.1 s.2) (l2, h)) (fun q => xsw q (fun b => f_WM_offerJoin_145 b) (fun r => some r))
noncomputable def f_WM_offerJoin (l1 : Int) (h : xH) : Option xH :=
  f_WM_offerJoin_2 l1 1 h
noncomputable def f_WM_offerMended (l1 : Int) (l2 : Int) (h : xH) : Option xH :=
  xc2 (f_Found_gather 66 60 l2 1 h) (fun r1 h2 => if 0 < r1 then (xc1 (f_Found_tell 66 0 1 h2) (fun r3 => xc1 (f_Found_tell 66 0 0 h2) (fun r4 => xc1 (f_Mend_offer 1 l1 r3 r4 (-1) h2) (fun h5 => some h5)))) else (some h2))
noncomputable def f_Mend_taken (l0 : Int) (h : xH) : Option Int :=
  if l0 = 2 then (some 2) else (some 1)
noncomputable def f_Mend_sumBy (l1 : Int) (l2 : Int) (h : xH) : Option Int :=
  xc1 (f_Mend_cellOf l1 l2 h) (fun r1 => xc1 (f_Mend_taken l1 h) (fun r2 => xlet (w32 (l2 + r2)) (fun x3 => if r1 = (-1) then (some 0) else (if x3 < 13 then (xgd r1 60 (xgd x3 13 (some (w32 ((h 71 r1) + (h 74 x3)))))) else (some 0)))))
noncomputable def f_Mend_bestKind_46 (l2 : Int) (h : xH) : Option Int :=
  some l2
noncomputable def f_Mend_bestKind_40 (l1 : Int) (l2 : Int) (l3 : Int) (h : xH) : Option ((Int × Int) ⊕ Int) :=
  xlet (w32 (l3 + 1)) (fun x1 => some (Sum.inl (l2, x1)))
noncomputable def f_Mend_bestKind_38 (l1 : Int) (l3 : Int) (h : xH) : Option ((Int × Int) ⊕ Int) :=
  f_Mend_bestKind_40 l1 l3 l3 h
noncomputable def f_Mend_bestKind_s4 (l1 : Int) (l2 : Int) (l3 : Int) (h : xH) : Option ((Int × Int) ⊕ Int) :=
  if l3 < 5 then (xc1 (f_Mend_offers l3 l1 h) (fun r1 => if r1 = 0 then (f_Mend_bestKind_40 l1 l2 l3 h) else (if l2 = (-1) then (f_Mend_bestKind_38 l1 l3 h) else (xc1 (f_Mend_sumBy l3 l1 h) (fun r2 => xc1 (f_Mend_sumBy l2 l1 h) (fun r3 => if r2 < r3 then (f_Mend_bestKind_38 l1 l3 h) else (f_Mend_bestKind_40 l1 l2 l3 h))))))) else (some (Sum.inr l2))
noncomputable def f_Mend_bestKind_4 (l1 : Int) (l2 : Int) (l3 : Int) (h : xH) : Option Int :=
  xc1 (xloop (fun s : (Int × Int) => f_Mend_bestKind_s4 l1 s.1 s.2 h) (l2, l3)) (fun b => f_Mend_bestKind_46 b h)
noncomputable def f_Mend_bestKind (l1 : Int) (h : xH) : Option Int :=
  f_Mend_bestKind_4 l1 (-1) 0 h
noncomputable def f_Mend_choose_96  (h : xH) : Option (Int × xH) :=
  some (h 70 7, h)
noncomputable def f_Mend_choose_s44 (l1 : Int) (h : xH) : Option ((Int × xH) ⊕ xH) :=
  if h 70 7 < 12 then (if l1 < h 70 6 then (xgd (h 70 7) 12 (xlet (xup h 76 (h 70 7) l1) (fun h1 => xlet (xup h1 70 7 (w32 ((h1 70 7) + 1))) (fun h2 => xgd l1 13 (xc1 (f_Mend_taken (h2 75 l1) h2) (fun r3 => xlet (w32 (l1 + r3)) (fun x4 => some (Sum.inl (x4, h2))))))))) else (some (Sum.inr h))) else (some (Sum.inr h))
noncomputable def f_Mend_choose_44 (l1 : Int) (h : xH) : Option (Int × xH) :=
  xc1 (xloop (fun s : (Int × xH) => f_Mend_choose_s44 s.1 s.2) (l1, h)) (fun b => f_Mend_choose_96 b)
noncomputable def f_Mend_choose_42  (h : xH) : Option (Int × xH) :=
  f_Mend_choose_44 0 h
noncomputable def f_Mend_choose_s7 (l1 : Int) (h : xH) : Option ((Int × xH) ⊕ xH) :=
  if l1 < 0 then (some (Sum.inr h)) else (xc1 (f_Mend_bestKind l1 h) (fun r1 => xgd l1 13 (xlet (xup h 75 l1 r1) (fun h2 => xc1 (f_Mend_sumBy r1 l1 h2) (fun r3 => xgd l1 13 (xlet (xup h2 74 l1 r3) (fun h4 => xlet (w32 (l1 + (-1))) (fun x5 => some (Sum.inl (x5, h4))))))))))
noncomputable def f_Mend_choose_7 (l1 : Int) (h : xH) : Option (Int × xH) :=
  xc1 (xloop (fun s : (Int × xH) => f_Mend_choose_s7 s.1 s.2) (l1, h)) (fun b => f_Mend_choose_42 b)
noncomputable def f_Mend_choose  (h : xH) : Option (Int × xH) :=
  xlet (w32 ((h 70 6) - 1)) (fun x1 => f_Mend_choose_7 x1 h)
noncomputable def f_WM_mend_193  (h : xH) : Option (Int × xH) :=
  xc2 (f_Mend_choose h) (fun r1 h2 => some (r1, h2))
noncomputable def f_WM_mend_187 (l1 : Int) (l3 : Int) (h : xH) : Option ((Int × xH) ⊕ xH) :=
  xlet (w32 (l3 + 1)) (fun x1 => some (Sum.inl (x1, h)))
noncomputable def f_WM_mend_s109 (l1 : Int) (l3 : Int) (h : xH) : Option ((Int × xH) ⊕ xH) :=
  if l3 < h 25 2 then (xc1 (f_WM_offerSplit l3 h) (fun h1 => xc1 (f_Mend_offers 0 l3 h1) (fun r2 => if r2 = 0 then (xc1 (f_WM_offerJoin l3 h1) (fun h3 => xc1 (f_Mend_offer 4 l3 (w32 (l1 + 1)) (-1) (-1) h3) (fun h4 => xc1 (f_Rows_copyTo 25 l3 23 h4) (fun h5 => xc1 (f_Walk_go 23 l1 0 h5) (fun h6 => xc1 (f_WM_offerMended l3 l1 h6) (fun h7 => f_WM_mend_187 l1 l3 h7)))))) else (f_WM_mend_187 l1 l3 h1)))) else (some (Sum.inr h))
noncomputable def f_WM_mend_109 (l1 : Int) (l3 : Int) (h : xH) : Option (Int × xH) :=
  xc1 (xloop (fun s : (Int × xH) => f_WM_mend_s109 l1 s.1 s.2) (l3, h)) (fun b => f_WM_mend_193 b)
noncomputable def f_WM_mend_107 (l1 : Int) (h : xH) : Option (Int × xH) :=
  f_WM_mend_109 l1 0 h
noncomputable def f_WM_mend_101 (l1 : Int) (l3 : Int) (h : xH) : Option ((Int × xH) ⊕ xH) :=
  xlet (w32 (l3 + 1)) (fun x1 => some (Sum.inl (x1, h)))
noncomputable def f_WM_mend_s46 (l1 : Int) (l3 : Int) (h : xH) : Option ((Int × xH) ⊕ xH) :=
  if l3 < h 25 2 then (xc1 (f_Rows_copyTo 25 l3 23 h) (fun h1 => xc1 (f_Lex_numberOf 23 h1) (fun r2 => if r2 = (-1) then (f_WM_mend_101 l1 l3 h1) else (xc1 (f_Mend_offer 0 l3 0 r2 (-1) h1) (fun h3 => f_WM_mend_101 l1 l3 h3))))) else (some (Sum.inr h))
noncomputable def f_WM_mend_46 (l1 : Int) (l3 : Int) (h : xH) : Option (Int × xH) :=
  xc1 (xloop (fun s : (Int × xH) => f_WM_mend_s46 l1 s.1 s.2) (l3, h)) (fun b => f_WM_mend_107 l1 b)
noncomputable def f_WM_mend (l1 : Int) (h : xH) : Option (Int × xH) :=
  xc2 (f_Tape_takeText 25 23 h) (fun r1 h2 => if r1 = 0 then (some ((-2), h2)) else (xc1 (f_WM_isNoBound l1 h2) (fun r3 => if r3 = 0 then (xc1 (f_Mend_clear (h2 25 2) h2) (fun h4 => f_WM_mend_46 l1 0 h4)) else (some ((-2), h2)))))
noncomputable def f_Mend_tell_76 (l2 : Int) (l3 : Int) (s0 : Int) (h : xH) : Option Int :=
  xc1 (f_Mend_cellOf s0 l3 h) (fun r1 => if r1 = (-1) then (some (-1)) else (if l2 = 0 then (some s0) else (if l2 = 1 then (xgd r1 60 (some (h 71 r1))) else (if l2 = 2 then (xgd r1 60 (some (h 72 r1))) else (if l2 = 3 then (xgd r1 60 (some (h 73 r1))) else (xc1 (f_Mend_taken s0 h) (fun r2 => some r2)))))))
noncomputable def f_Mend_tell_75 (l2 : Int) (l3 : Int) (h : xH) : Option Int :=
  f_Mend_tell_76 l2 l3 (-1) h
noncomputable def f_Mend_tell_52 (l2 : Int) (s0 : Int) (h : xH) : Option Int :=
  if s0 < 0 then (f_Mend_tell_75 l2 s0 h) else (if s0 < 13 then (xgd s0 13 (f_Mend_tell_76 l2 s0 (h 75 s0) h)) else (f_Mend_tell_75 l2 s0 h))
noncomputable def f_Mend_tell_51 (l2 : Int) (h : xH) : Option Int :=
  f_Mend_tell_52 l2 (-1) h
noncomputable def f_Mend_tell (l1 : Int) (l2 : Int) (h : xH) : Option Int :=
  if l1 = (-1) then (if l2 = 1 then (xgd 0 13 (some (h 74 0))) else (some (-1))) else (if l1 < 0 then (f_Mend_tell_51 l2 h) else (if l1 < h 70 7 then (if l1 < 12 then (xgd l1 12 (f_Mend_tell_52 l2 (h 76 l1) h)) else (f_Mend_tell_51 l2 h)) else (f_Mend_tell_51 l2 h)))
noncomputable def f_WM_part_9  (h : xH) : Option Int :=
  some (-2)
noncomputable def f_WM_part (l1 : Int) (l2 : Int) (h : xH) : Option Int :=
  if l2 < 0 then (f_WM_part_9 h) else (if 4 < l2 then (f_WM_part_9 h) else (xc1 (f_Mend_tell l1 l2 h) (fun r1 => some r1)))
noncomputable def f_WM_isThing_38 (l2 : Int) (h : xH) : Option Int :=
  if l2 < 0 then (some 0) else (if l2 < h 5 2 then (some 1) else (some 0))
noncomputable def f_WM_isThing (l1 : Int) (l2 : Int) (h : xH) : Option Int :=
  if l1 = 0 then (some 1) else (if l1 = 1 then (f_WM_isThing_38 l2 h) else (if l1 = 2 then (if l2 < 0 then (some 0) else (if l2 < h 49 5 then (some 1) else (some 0))) else (if l1 = 3 then (some 1) else (if l1 = 4 then (f_WM_isThing_38 l2 h) else (some 0)))))
noncomputable def f_Trays_refuse (l1 : Int) (h : xH) : Option (Int × xH) :=
  xlet (xup h 77 3 l1) (fun h1 => some ((-1), h1))
noncomputable def f_Trays_clear (l1 : Int) (l2 : Int) (h : xH) : Option xH :=
  if l1 < 0 then (some h) else (if l1 < 8 then (xgd l1 8 (xlet (xup h 78 l1 l2) (fun h1 => xgd l1 8 (xlet (xup h1 79 l1 0) (fun h2 => some h2))))) else (some h))
noncomputable def f_Trays_lay (l1 : Int) (l2 : Int) (h : xH) : Option xH :=
  if l1 < 0 then (some h) else (if l1 < 8 then (xgd l1 8 (if h 79 l1 < 0 then (some h) else (xgd l1 8 (if h 79 l1 < 26 then (xgd l1 8 (xgd (w32 ((w32 (l1 * 26)) + (h 79 l1))) 208 (xlet (xup h 80 (w32 ((w32 (l1 * 26)) + (h 79 l1))) l2) (fun h1 => xgd l1 8 (xgd l1 8 (xlet (xup h1 79 l1 (w32 ((h1 79 l1) + 1))) (fun h2 => some h2))))))) else (some h))))) else (some h))
noncomputable def f_WM_layLetters_43  (h : xH) : Option xH :=
  some h
noncomputable def f_WM_layLetters_s2 (l1 : Int) (l2 : Int) (l3 : Int) (h : xH) : Option ((Int × xH) ⊕ xH) :=
  xc1 (f_Rows_sizeOf 5 l2 h) (fun r1 => if l3 < r1 then (xc1 (f_Rows_at 5 l2 l3 h) (fun r2 => xc1 (f_Trays_lay l1 r2 h) (fun h3 => xlet (w32 (l3 + 1)) (fun x4 => some (Sum.inl (x4, h3)))))) else (some (Sum.inr h)))
noncomputable def f_WM_layLetters_2 (l1 : Int) (l2 : Int) (l3 : Int) (h : xH) : Option xH :=
  xc1 (xloop (fun s : (Int × xH) => f_WM_layLetters_s2 l1 l2 s.1 s.2) (l3, h)) (fun b => f_WM_layLetters_43 b)
noncomputable def f_WM_layLetters (l1 : Int) (l2 : Int) (h : xH) : Option xH :=
  f_WM_layLetters_2 l1 l2 0 h
noncomputable def f_WM_layState_42  (h : xH) : Option xH :=
  some h
noncomputable def f_WM_layState_s2 (l1 : Int) (l2 : Int) (l3 : Int) (h : xH) : Option ((Int × xH) ⊕ xH) :=
  if l3 < h 49 7 then (xc1 (f_Met_stateAt l2 l3 h) (fun r1 => xc1 (f_Trays_lay l1 r1 h) (fun h2 => xlet (w32 (l3 + 1)) (fun x3 => some (Sum.inl (x3, h2)))))) else (some (Sum.inr h))
noncomputable def f_WM_layState_2 (l1 : Int) (l2 : Int) (l3 : Int) (h : xH) : Option xH :=
  xc1 (xloop (fun s : (Int × xH) => f_WM_layState_s2 l1 l2 s.1 s.2) (l3, h)) (fun b => f_WM_layState_42 b)
noncomputable def f_WM_layState (l1 : Int) (l2 : Int) (h : xH) : Option xH :=
  f_WM_layState_2 l1 l2 0 h
noncomputable def f_WM_layPrices_30  (h : xH) : Option xH :=
  some h
noncomputable def f_WM_layPrices_s2 (l1 : Int) (l2 : Int) (h : xH) : Option ((Int × xH) ⊕ xH) :=
  if 6 < l2 then (some (Sum.inr h)) else (xc1 (f_Slips_kindPrice l2 h) (fun r1 => xc1 (f_Trays_lay l1 r1 h) (fun h2 => xlet (w32 (l2 + 1)) (fun x3 => some (Sum.inl (x3, h2))))))
noncomputable def f_WM_layPrices_2 (l1 : Int) (l2 : Int) (h : xH) : Option xH :=
  xc1 (xloop (fun s : (Int × xH) => f_WM_layPrices_s2 l1 s.1 s.2) (l2, h)) (fun b => f_WM_layPrices_30 b)
noncomputable def f_WM_layPrices (l1 : Int) (h : xH) : Option xH :=
  f_WM_layPrices_2 l1 1 h
noncomputable def f_WM_layTruths_72  (h : xH) : Option xH :=
  some h
noncomputable def f_WM_layTruths_56 (l1 : Int) (l2 : Int) (l3 : Int) (l4 : Int) (h : xH) : Option ((Int × xH) ⊕ xH) :=
  xc1 (f_Trays_lay l1 l4 h) (fun h1 => xlet (w32 (l3 + 1)) (fun x2 => some (Sum.inl (x2, h1))))
noncomputable def f_WM_layTruths_50 (l1 : Int) (l2 : Int) (l3 : Int) (l4 : Int) (l5 : Int) (h : xH) : Option ((Int × Int) ⊕ Int) :=
  xlet (w32 (l5 + 1)) (fun x1 => some (Sum.inl (l4, x1)))
noncomputable def f_WM_layTruths_s14 (l1 : Int) (l2 : Int) (l3 : Int) (l4 : Int) (l5 : Int) (h : xH) : Option ((Int × Int) ⊕ Int) :=
  xc1 (f_Rows_sizeOf 5 l2 h) (fun r1 => if l5 < r1 then (xc1 (f_Rows_at 5 l2 l5 h) (fun r2 => if r2 = l3 then (f_WM_layTruths_50 l1 l2 l3 1 l5 h) else (f_WM_layTruths_50 l1 l2 l3 l4 l5 h))) else (some (Sum.inr l4)))
noncomputable def f_WM_layTruths_14 (l1 : Int) (l2 : Int) (l3 : Int) (l4 : Int) (l5 : Int) (h : xH) : Option ((Int × xH) ⊕ xH) :=
  xc1 (xloop (fun s : (Int × Int) => f_WM_layTruths_s14 l1 l2 l3 s.1 s.2 h) (l4, l5)) (fun b => f_WM_layTruths_56 l1 l2 l3 b h)
noncomputable def f_WM_layTruths_s2 (l1 : Int) (l2 : Int) (l3 : Int) (h : xH) : Option ((Int × xH) ⊕ xH) :=
  if l3 < 26 then (f_WM_layTruths_14 l1 l2 l3 0 0 h) else (some (Sum.inr h))
noncomputable def f_WM_layTruths_2 (l1 : Int) (l2 : Int) (l3 : Int) (h : xH) : Option xH :=
  xc1 (xloop (fun s : (Int × xH) => f_WM_layTruths_s2 l1 l2 s.1 s.2) (l3, h)) (fun b => f_WM_layTruths_72 b)
noncomputable def f_WM_layTruths (l1 : Int) (l2 : Int) (h : xH) : Option xH :=
  f_WM_layTruths_2 l1 l2 0 h
noncomputable def f_Trays_done (l1 : Int) (h : xH) : Option (Int × xH) :=
  xlet (xup h 77 3 0) (fun h1 => some (l1, h1))
noncomputable def f_WM_put_89  (h : xH) : Option (Int × xH) :=
  xc2 (f_Trays_done 1 h) (fun r1 h2 => some (r1, h2))
noncomputable def f_WM_put_19  (h : xH) : Option (Int × xH) :=
  xc2 (f_Trays_refuse 1 h) (fun r1 h2 => some (r1, h2))
noncomputable def f_WM_put (l1 : Int) (l2 : Int) (l3 : Int) (h : xH) : Option (Int × xH) :=
  if l1 < 0 then (f_WM_put_19 h) else (if l1 < 8 then (xc1 (f_WM_isThing l2 l3 h) (fun r1 => if r1 = 0 then (f_WM_put_19 h) else (xc1 (f_Trays_clear l1 l2 h) (fun h2 => if l2 = 1 then (xc1 (f_WM_layLetters l1 l3 h2) (fun h3 => f_WM_put_89 h3)) else (if l2 = 2 then (xc1 (f_WM_layState l1 l3 h2) (fun h4 => f_WM_put_89 h4)) else (if l2 = 3 then (xc1 (f_WM_layPrices l1 h2) (fun h5 => f_WM_put_89 h5)) else (if l2 = 4 then (xc1 (f_WM_layTruths l1 l3 h2) (fun h6 => f_WM_put_89 h6)) else (f_WM_put_89 h2)))))))) else (f_WM_put_19 h))
noncomputable def f_Trays_whyNot (l1 : Int) (l2 : Int) (h : xH) : Option Int :=
  if l1 < 0 then (some 1) else (if l1 < 8 then (xgd l1 8 (if h 78 l1 = 0 then (some 10) else (xgd l1 8 (if h 78 l1 = l2 then (some 0) else (some 11))))) else (some 1))
noncomputable def f_Trays_read_43  (h : xH) : Option (Int × xH) :=
  xc2 (f_Trays_refuse 12 h) (fun r1 h2 => some (r1, h2))
noncomputable def f_Trays_read (l1 : Int) (l2 : Int) (l3 : Int) (h : xH) : Option (Int × xH) :=
  xc1 (f_Trays_whyNot l1 l2 h) (fun r1 => if r1 = 0 then (xgd l1 8 (xlet (min (h 79 l1) 26) (fun x2 => if l3 < 0 then (f_Trays_read_43 h) else (if l3 < x2 then (xgd (w32 ((w32 (l1 * 26)) + l3)) 208 (xc2 (f_Trays_done (h 80 (w32 ((w32 (l1 * 26)) + l3))) h) (fun r3 h4 => some (r3, h4)))) else (f_Trays_read_43 h))))) else (xc2 (f_Trays_refuse r1 h) (fun r5 h6 => some (r5, h6))))
noncomputable def f_Trays_copy_95 (l5 : Int) (h : xH) : Option (Int × xH) :=
  xc2 (f_Trays_done l5 h) (fun r1 h2 => some (r1, h2))
noncomputable def f_Trays_copy_s63 (l1 : Int) (l2 : Int) (l5 : Int) (l6 : Int) (h : xH) : Option ((Int × Int) ⊕ Int) :=
  if l2 < l6 then (some (Sum.inr l5)) else (xgd (w32 ((w32 (l1 * 26)) + l6)) 208 (xlet (w32 (l5 + (w32 (97 + (h 80 (w32 ((w32 (l1 * 26)) + l6))))))) (fun x1 => xlet (w32 (l6 + 1)) (fun x2 => some (Sum.inl (x1, x2))))))
noncomputable def f_Trays_copy_63 (l1 : Int) (l2 : Int) (l5 : Int) (l6 : Int) (h : xH) : Option (Int × xH) :=
  xc1 (xloop (fun s : (Int × Int) => f_Trays_copy_s63 l1 l2 s.1 s.2 h) (l5, l6)) (fun b => f_Trays_copy_95 b h)
noncomputable def f_Trays_copy_50  (h : xH) : Option (Int × xH) :=
  xc2 (f_Trays_refuse 12 h) (fun r1 h2 => some (r1, h2))
noncomputable def f_Trays_copy (l1 : Int) (l2 : Int) (h : xH) : Option (Int × xH) :=
  xc1 (f_Trays_whyNot l1 1 h) (fun r1 => if r1 = 0 then (xgd l1 8 (xlet (min (h 79 l1) 26) (fun x2 => if l2 < 0 then (f_Trays_copy_50 h) else (if x2 < w32 (1 + l2) then (f_Trays_copy_50 h) else (if 6 < w32 (l2 + l2) then (f_Trays_copy_50 h) else (f_Trays_copy_63 l1 l2 0 1 h)))))) else (xc2 (f_Trays_refuse r1 h) (fun r3 h4 => some (r3, h4))))
noncomputable def f_Trays_layAmongStates (l1 : Int) (h : xH) : Option (Int × xH) :=
  xc1 (f_Trays_whyNot l1 2 h) (fun r1 => if r1 = 10 then (xc2 (f_Trays_done 0 h) (fun r2 h3 => some (r2, h3))) else (if r1 = 0 then (xgd l1 8 (xc2 (f_Trays_done (h 79 l1) h) (fun r4 h5 => some (r4, h5)))) else (xc2 (f_Trays_refuse 14 h) (fun r6 h7 => some (r6, h7)))))
noncomputable def f_Trays_work_22  (h : xH) : Option (Int × xH) :=
  xc2 (f_Trays_refuse 1 h) (fun r1 h2 => some (r1, h2))
noncomputable def f_Trays_work (l1 : Int) (l2 : Int) (l3 : Int) (h : xH) : Option (Int × xH) :=
  if l1 < 0 then (f_Trays_work_22 h) else (if l1 < 8 then (if l3 < (-100) then (f_Trays_work_22 h) else (if 100 < l3 then (f_Trays_work_22 h) else (if l2 = 0 then (xc2 (f_Trays_read l1 1 l3 h) (fun r1 h2 => some (r1, h2))) else (if l2 = 1 then (xc2 (f_Trays_read l1 2 l3 h) (fun r3 h4 => some (r3, h4))) else (if l2 = 2 then (xc2 (f_Trays_read l1 3 l3 h) (fun r5 h6 => some (r5, h6))) else (if l2 = 3 then (xc2 (f_Trays_read l1 4 l3 h) (fun r7 h8 => some (r7, h8))) else (if l2 = 4 then (if l3 < 0 then (xc2 (f_Trays_refuse 13 h) (fun r9 h10 => some (r9, h10))) else (xc2 (f_Trays_done l3 h) (fun r11 h12 => some (r11, h12)))) else (if l2 = 5 then (xc2 (f_Trays_copy l1 l3 h) (fun r13 h14 => some (r13, h14))) else (if l2 = 6 then (xc2 (f_Trays_layAmongStates l1 h) (fun r15 h16 => some (r15, h16))) else (if l2 = 7 then (if l3 = 0 then (xc2 (f_Trays_refuse 15 h) (fun r17 h18 => some (r17, h18))) else (xgp (l3 ≠ 0) (xc2 (f_Trays_done (xdiv 1000 l3) h) (fun r19 h20 => some (r19, h20))))) else (if l2 = 8 then (xc2 (f_Trays_refuse 10 h) (fun r21 h22 => some (r21, h22))) else (xc2 (f_Trays_refuse 1 h) (fun r23 h24 => some (r23, h24)))))))))))))) else (f_Trays_work_22 h))
noncomputable def f_WM_forge (l1 : Int) (l2 : Int) (l3 : Int) (h : xH) : Option (Int × xH) :=
  xc2 (f_Trays_work l1 l2 l3 h) (fun r1 h2 => some (r1, h2))
noncomputable def f_WM_status  (h : xH) : Option Int :=
  some (h 77 3)
noncomputable def f_Md_in (l0 : Int) (l1 : Int) (l2 : Int) (h : xH) : Option Int :=
  if l0 < l1 then (some 0) else (if l2 < l0 then (some 0) else (some 1))
noncomputable def f_Md_min (l0 : Int) (l1 : Int) (h : xH) : Option Int :=
  if l0 < l1 then (some l0) else (some l1)
noncomputable def f_Md_feed_71  (h : xH) : Option (Int × xH) :=
  some (h 81 1, h)
noncomputable def f_Md_feed_s31 (l1 : Int) (l2 : Int64) (l4 : Int) (h : xH) : Option ((Int × xH) ⊕ xH) :=
  if l4 < l1 then (xlet (xup h 81 1 (w32 ((h 81 1) + 1))) (fun h1 => xgd (h 81 1) 240 (xlet (xup h1 82 (h 81 1) (xand ((Int64.toInt32 (xlshr l2 (w32 (8 * l4)))).toInt) 255)) (fun h2 => xlet (w32 (l4 + 1)) (fun x3 => some (Sum.inl (x3, h2))))))) else (some (Sum.inr h))
noncomputable def f_Md_feed_31 (l1 : Int) (l2 : Int64) (l4 : Int) (h : xH) : Option (Int × xH) :=
  xc1 (xloop (fun s : (Int × xH) => f_Md_feed_s31 l1 l2 s.1 s.2) (l4, h)) (fun b => f_Md_feed_71 b)
noncomputable def f_Md_feed (l1 : Int) (l2 : Int64) (h : xH) : Option (Int × xH) :=
  xc1 (f_Md_in l1 1 8 h) (fun r1 => if r1 = 0 then (some ((-2), h)) else (if 240 < w32 ((h 81 1) + l1) then (some ((-4), h)) else (f_Md_feed_31 l1 l2 0 h)))
noncomputable def f_Md_reads_151  (h : xH) : Option (Int × xH) :=
  some (1, h)
noncomputable def f_Md_reads_145 (l1 : Int) (l2 : Int) (l3 : Int) (l4 : Int) (l5 : Int) (l6 : Int) (h : xH) : Option ((Int × Int × xH) ⊕ (xH ⊕ (Int × xH))) :=
  xlet (w32 (l6 + 1)) (fun x1 => some (Sum.inl (l5, x1, h)))
noncomputable def f_Md_reads_47 (l1 : Int) (l2 : Int) (l3 : Int) (l4 : Int) (l5 : Int) (l6 : Int) (h : xH) : Option ((Int × Int × xH) ⊕ (xH ⊕ (Int × xH))) :=
  if l5 = 0 then (some (Sum.inr (Sum.inr (0, h)))) else (xlet (xup h 81 2 (w32 ((h 81 2) + 1))) (fun h1 => xgd (h 81 2) 12 (xlet (xup h1 83 (h 81 2) l5) (fun h2 => if l6 < l4 then (if h2 81 2 = l2 then (some (Sum.inr (Sum.inr (0, h2)))) else (f_Md_reads_145 l1 l2 l3 l4 0 l6 h2)) else (f_Md_reads_145 l1 l2 l3 l4 0 l6 h2)))))
noncomputable def f_Md_reads_s22 (l1 : Int) (l2 : Int) (l3 : Int) (l4 : Int) (l5 : Int) (l6 : Int) (h : xH) : Option ((Int × Int × xH) ⊕ (xH ⊕ (Int × xH))) :=
  if l4 < l6 then (some (Sum.inr (Sum.inl h))) else (if l6 = l4 then (f_Md_reads_47 l1 l2 l3 l4 l5 l6 h) else (xgd l6 240 (if h 82 l6 = l1 then (f_Md_reads_47 l1 l2 l3 l4 l5 l6 h) else (xgd l6 240 (xc1 (f_Md_in (h 82 l6) 97 122 h) (fun r1 => if r1 = 0 then (some (Sum.inr (Sum.inr (0, h)))) else (if l5 = l3 then (some (Sum.inr (Sum.inr (0, h)))) else (xlet (w32 (l5 + 1)) (fun x2 => xgd l6 240 (xgd (w32 ((w32 (12 * (h 81 2))) + l5)) 144 (xlet (xup h 84 (w32 ((w32 (12 * (h 81 2))) + l5)) (w32 ((h 82 l6) - 97))) (fun h3 => f_Md_reads_145 l1 l2 l3 l4 x2 l6 h3))))))))))))
noncomputable def f_Md_reads_22 (l1 : Int) (l2 : Int) (l3 : Int) (l4 : Int) (l5 : Int) (l6 : Int) (h : xH) : Option (Int × xH) :=
  xc1 (xloop (fun s : (Int × Int × xH) => f_Md_reads_s22 l1 l2 l3 l4 s.1 s.2.1 s.2.2) (l5, l6, h)) (fun q => xsw q (fun b => f_Md_reads_151 b) (fun r => some r))
noncomputable def f_Md_reads (l1 : Int) (l2 : Int) (l3 : Int) (h : xH) : Option (Int × xH) :=
  xlet (xup h 81 2 0) (fun h1 => xlet (h1 81 1) (fun x2 => xlet (xup h1 81 1 0) (fun h3 => f_Md_reads_22 l1 l2 l3 x2 0 0 h3)))
noncomputable def f_Md_readsOne  (h : xH) : Option (Int × xH) :=
  xc2 (f_Md_reads 0 1 12 h) (fun r1 h2 => xgb r1 (some (r1, h2)))
noncomputable def f_Md_readsTwo (l1 : Int) (h : xH) : Option (Int × xH) :=
  xc2 (f_Md_reads 61 2 l1 h) (fun r1 h2 => if r1 = 0 then (some (0, h2)) else (if h2 81 2 = 2 then (some (1, h2)) else (some (0, h2))))
noncomputable def f_Md_takeA_43  (h : xH) : Option xH :=
  some h
noncomputable def f_Md_takeA_s12 (l1 : Int) (l2 : Int) (h : xH) : Option ((Int × xH) ⊕ xH) :=
  if l2 < h 81 22 then (xgd (w32 ((w32 (12 * l1)) + l2)) 144 (xgd l2 12 (xlet (xup h 97 l2 (h 84 (w32 ((w32 (12 * l1)) + l2)))) (fun h1 => xlet (w32 (l2 + 1)) (fun x2 => some (Sum.inl (x2, h1))))))) else (some (Sum.inr h))
noncomputable def f_Md_takeA_12 (l1 : Int) (l2 : Int) (h : xH) : Option xH :=
  xc1 (xloop (fun s : (Int × xH) => f_Md_takeA_s12 l1 s.1 s.2) (l2, h)) (fun b => f_Md_takeA_43 b)
noncomputable def f_Md_takeA (l1 : Int) (h : xH) : Option xH :=
  xgd l1 12 (xlet (xup h 81 22 (h 83 l1)) (fun h1 => f_Md_takeA_12 l1 0 h1))
noncomputable def f_Md_takeB_43  (h : xH) : Option xH :=
  some h
noncomputable def f_Md_takeB_s12 (l1 : Int) (l2 : Int) (h : xH) : Option ((Int × xH) ⊕ xH) :=
  if l2 < h 81 23 then (xgd (w32 ((w32 (12 * l1)) + l2)) 144 (xgd l2 12 (xlet (xup h 98 l2 (h 84 (w32 ((w32 (12 * l1)) + l2)))) (fun h1 => xlet (w32 (l2 + 1)) (fun x2 => some (Sum.inl (x2, h1))))))) else (some (Sum.inr h))
noncomputable def f_Md_takeB_12 (l1 : Int) (l2 : Int) (h : xH) : Option xH :=
  xc1 (xloop (fun s : (Int × xH) => f_Md_takeB_s12 l1 s.1 s.2) (l2, h)) (fun b => f_Md_takeB_43 b)
noncomputable def f_Md_takeB (l1 : Int) (h : xH) : Option xH :=
  xgd l1 12 (xlet (xup h 81 23 (h 83 l1)) (fun h1 => f_Md_takeB_12 l1 0 h1))
noncomputable def f_Md_wordA_43  (h : xH) : Option xH :=
  some h
noncomputable def f_Md_wordA_s12 (l1 : Int) (l2 : Int) (h : xH) : Option ((Int × xH) ⊕ xH) :=
  if l2 < h 81 22 then (xgd (w32 ((w32 (12 * l1)) + l2)) 2400 (xgd l2 12 (xlet (xup h 97 l2 (h 86 (w32 ((w32 (12 * l1)) + l2)))) (fun h1 => xlet (w32 (l2 + 1)) (fun x2 => some (Sum.inl (x2, h1))))))) else (some (Sum.inr h))
noncomputable def f_Md_wordA_12 (l1 : Int) (l2 : Int) (h : xH) : Option xH :=
  xc1 (xloop (fun s : (Int × xH) => f_Md_wordA_s12 l1 s.1 s.2) (l2, h)) (fun b => f_Md_wordA_43 b)
noncomputable def f_Md_wordA (l1 : Int) (h : xH) : Option xH :=
  xgd l1 200 (xlet (xup h 81 22 (h 85 l1)) (fun h1 => f_Md_wordA_12 l1 0 h1))
noncomputable def f_Md_compares_64 (l1 : Int) (l2 : Int) (h : xH) : Option Int :=
  xgd l1 200 (if h 85 l1 < l2 then (some (-1)) else (xgd l1 200 (if l2 < h 85 l1 then (some 1) else (some 0))))
noncomputable def f_Md_compares_s3 (l1 : Int) (l2 : Int) (l3 : Int) (l4 : Int) (l5 : Int) (h : xH) : Option (Int ⊕ (Unit ⊕ Int)) :=
  xgd l1 200 (if l5 < h 85 l1 then (if l5 < l2 then (xgd (w32 ((w32 (12 * l1)) + l5)) 2400 (xgd (w32 (l4 + l5)) (xN l3 : Int) (xlet (w32 ((h 86 (w32 ((w32 (12 * l1)) + l5))) - (h l3 (w32 (l4 + l5))))) (fun x1 => if x1 = 0 then (xlet (w32 (l5 + 1)) (fun x2 => some (Sum.inl x2))) else (if x1 < 0 then (some (Sum.inr (Sum.inr (-1)))) else (some (Sum.inr (Sum.inr 1)))))))) else (some (Sum.inr (Sum.inl ())))) else (some (Sum.inr (Sum.inl ()))))
noncomputable def f_Md_compares_3 (l1 : Int) (l2 : Int) (l3 : Int) (l4 : Int) (l5 : Int) (h : xH) : Option Int :=
  xc1 (xloop (fun s : Int => f_Md_compares_s3 l1 l2 l3 l4 s h) l5) (fun q => xsw q (fun b => f_Md_compares_64 l1 l2 h) (fun r => some r))
noncomputable def f_Md_compares (l1 : Int) (l2 : Int) (l3 : Int) (l4 : Int) (h : xH) : Option Int :=
  f_Md_compares_3 l1 l2 l3 l4 0 h
noncomputable def f_Md_wordOf_33  (h : xH) : Option Int :=
  some (-1)
noncomputable def f_Md_wordOf_s3 (l1 : Int) (l2 : Int) (l3 : Int) (l4 : Int) (h : xH) : Option (Int ⊕ (Unit ⊕ Int)) :=
  if l4 < h 81 5 then (xc1 (f_Md_compares l4 l1 l2 l3 h) (fun r1 => if r1 = 0 then (some (Sum.inr (Sum.inr l4))) else (xlet (w32 (l4 + 1)) (fun x2 => some (Sum.inl x2))))) else (some (Sum.inr (Sum.inl ())))
noncomputable def f_Md_wordOf_3 (l1 : Int) (l2 : Int) (l3 : Int) (l4 : Int) (h : xH) : Option Int :=
  xc1 (xloop (fun s : Int => f_Md_wordOf_s3 l1 l2 l3 s h) l4) (fun q => xsw q (fun b => f_Md_wordOf_33 h) (fun r => some r))
noncomputable def f_Md_wordOf (l1 : Int) (l2 : Int) (l3 : Int) (h : xH) : Option Int :=
  f_Md_wordOf_3 l1 l2 l3 0 h
noncomputable def f_Md_moveWord_60  (h : xH) : Option xH :=
  some h
noncomputable def f_Md_moveWord_s26 (l1 : Int) (l2 : Int) (l3 : Int) (h : xH) : Option ((Int × xH) ⊕ xH) :=
  if l3 < 12 then (xgd (w32 ((w32 (12 * l1)) + l3)) 2400 (xgd (w32 ((w32 (12 * l2)) + l3)) 2400 (xlet (xup h 86 (w32 ((w32 (12 * l2)) + l3)) (h 86 (w32 ((w32 (12 * l1)) + l3)))) (fun h1 => xlet (w32 (l3 + 1)) (fun x2 => some (Sum.inl (x2, h1))))))) else (some (Sum.inr h))
noncomputable def f_Md_moveWord_26 (l1 : Int) (l2 : Int) (l3 : Int) (h : xH) : Option xH :=
  xc1 (xloop (fun s : (Int × xH) => f_Md_moveWord_s26 l1 l2 s.1 s.2) (l3, h)) (fun b => f_Md_moveWord_60 b)
noncomputable def f_Md_moveWord (l1 : Int) (l2 : Int) (h : xH) : Option xH :=
  xgd l1 200 (xgd l2 200 (xlet (xup h 85 l2 (h 85 l1)) (fun h1 => xgd l1 200 (xgd l2 200 (xlet (xup h1 87 l2 (h1 87 l1)) (fun h2 => f_Md_moveWord_26 l1 l2 0 h2))))))
noncomputable def f_Md_add_212 (l1 : Int) (l4 : Int) (h : xH) : Option (Int × xH) :=
  xgd l4 200 (xlet (xup h 87 l4 l1) (fun h1 => some (l1, h1)))
noncomputable def f_Md_add_s175 (l1 : Int) (l4 : Int) (l5 : Int) (h : xH) : Option ((Int × xH) ⊕ xH) :=
  xgd 0 12 (if l5 < h 83 0 then (xgd l5 144 (xgd (w32 ((w32 (12 * l4)) + l5)) 2400 (xlet (xup h 86 (w32 ((w32 (12 * l4)) + l5)) (h 84 l5)) (fun h1 => xlet (w32 (l5 + 1)) (fun x2 => some (Sum.inl (x2, h1))))))) else (some (Sum.inr h)))
noncomputable def f_Md_add_175 (l1 : Int) (l4 : Int) (l5 : Int) (h : xH) : Option (Int × xH) :=
  xc1 (xloop (fun s : (Int × xH) => f_Md_add_s175 l1 l4 s.1 s.2) (l5, h)) (fun b => f_Md_add_212 l1 l4 b)
noncomputable def f_Md_add_149 (l1 : Int) (l4 : Int) (h : xH) : Option (Int × xH) :=
  xlet (xup h 81 5 (w32 ((h 81 5) + 1))) (fun h1 => xgd 0 12 (xgd l4 200 (xlet (xup h1 85 l4 (h1 83 0)) (fun h2 => f_Md_add_175 l1 l4 0 h2))))
noncomputable def f_Md_add_s126 (l1 : Int) (l4 : Int) (l5 : Int) (h : xH) : Option ((Int × xH) ⊕ xH) :=
  if l4 < l5 then (xc1 (f_Md_moveWord (w32 (l5 - 1)) l5 h) (fun h1 => xlet (w32 (l5 + (-1))) (fun x2 => some (Sum.inl (x2, h1))))) else (some (Sum.inr h))
noncomputable def f_Md_add_126 (l1 : Int) (l4 : Int) (l5 : Int) (h : xH) : Option (Int × xH) :=
  xc1 (xloop (fun s : (Int × xH) => f_Md_add_s126 l1 l4 s.1 s.2) (l5, h)) (fun b => f_Md_add_149 l1 l4 b)
noncomputable def f_Md_add_120 (l1 : Int) (l4 : Int) (h : xH) : Option (Int × xH) :=
  xlet (h 81 5) (fun x1 => f_Md_add_126 l1 l4 x1 h)
noncomputable def f_Md_add_s85 (l1 : Int) (l4 : Int) (h : xH) : Option (Int ⊕ Int) :=
  if l4 < h 81 5 then (xgd 0 12 (xc1 (f_Md_compares l4 (h 83 0) 84 0 h) (fun r1 => if r1 < 0 then (xlet (w32 (l4 + 1)) (fun x2 => some (Sum.inl x2))) else (some (Sum.inr l4))))) else (some (Sum.inr l4))
noncomputable def f_Md_add_85 (l1 : Int) (l4 : Int) (h : xH) : Option (Int × xH) :=
  xc1 (xloop (fun s : Int => f_Md_add_s85 l1 s h) l4) (fun b => f_Md_add_120 l1 b h)
noncomputable def f_Md_add (l1 : Int) (h : xH) : Option (Int × xH) :=
  xc2 (f_Md_readsOne h) (fun r1 h2 => if r1 = 0 then (some ((-2), h2)) else (xc1 (f_Md_in l1 1 100000 h2) (fun r3 => if r3 = 0 then (some ((-2), h2)) else (xgd 0 12 (xc1 (f_Md_wordOf (h2 83 0) 84 0 h2) (fun r4 => if r4 = (-1) then (if h2 81 5 = 200 then (some ((-4), h2)) else (f_Md_add_85 l1 0 h2)) else (xgd r4 200 (xc1 (f_Md_min 100000 (w32 ((h2 87 r4) + l1)) h2) (fun r5 => xgd r4 200 (xlet (xup h2 87 r4 r5) (fun h6 => xgd r4 200 (some (h6 87 r4, h6)))))))))))))
noncomputable def f_Md_drop_66 (l2 : Int) (h : xH) : Option (Int × xH) :=
  xlet (xup h 81 5 (w32 ((h 81 5) - 1))) (fun h1 => some (l2, h1))
noncomputable def f_Md_drop_s42 (l2 : Int) (l3 : Int) (h : xH) : Option ((Int × xH) ⊕ xH) :=
  if l3 < w32 ((h 81 5) - 1) then (xc1 (f_Md_moveWord (w32 (l3 + 1)) l3 h) (fun h1 => xlet (w32 (l3 + 1)) (fun x2 => some (Sum.inl (x2, h1))))) else (some (Sum.inr h))
noncomputable def f_Md_drop_42 (l2 : Int) (l3 : Int) (h : xH) : Option (Int × xH) :=
  xc1 (xloop (fun s : (Int × xH) => f_Md_drop_s42 l2 s.1 s.2) (l3, h)) (fun b => f_Md_drop_66 l2 b)
noncomputable def f_Md_drop  (h : xH) : Option (Int × xH) :=
  xc2 (f_Md_readsOne h) (fun r1 h2 => if r1 = 0 then (some ((-2), h2)) else (xgd 0 12 (xc1 (f_Md_wordOf (h2 83 0) 84 0 h2) (fun r3 => if r3 = (-1) then (some (0, h2)) else (xgd r3 200 (xlet (h2 87 r3) (fun x4 => f_Md_drop_42 x4 r3 h2)))))))
noncomputable def f_Md_find  (h : xH) : Option (Int × xH) :=
  xc2 (f_Md_readsOne h) (fun r1 h2 => if r1 = 0 then (some ((-2), h2)) else (xgd 0 12 (xc1 (f_Md_wordOf (h2 83 0) 84 0 h2) (fun r3 => some (r3, h2)))))
noncomputable def f_Md_word (l1 : Int) (l2 : Int) (h : xH) : Option Int :=
  xc1 (f_Md_in l1 0 (w32 ((h 81 5) - 1)) h) (fun r1 => if r1 = 0 then (some (-2)) else (if l2 < 0 then (some (-2)) else (if l2 = 0 then (xgd l1 200 (some (h 87 l1))) else (if l2 = 1 then (xgd l1 200 (some (h 85 l1))) else (xgd l1 200 (if w32 (l2 - 2) < h 85 l1 then (xgd (w32 ((w32 ((w32 (12 * l1)) + l2)) - 2)) 2400 (some (h 86 (w32 ((w32 ((w32 (12 * l1)) + l2)) - 2))))) else (some (-1))))))))
noncomputable def f_Md_alike_57 (l2 : Int) (h : xH) : Option Int :=
  some l2
noncomputable def f_Md_alike_s2 (l1 : Int) (l2 : Int) (h : xH) : Option (Int ⊕ Int) :=
  xgd l1 200 (if l2 < h 85 l1 then (xgd (w32 (l1 + 1)) 200 (if l2 < h 85 (w32 (l1 + 1)) then (xgd (w32 ((w32 (12 * l1)) + l2)) 2400 (xgd (w32 ((w32 (12 * (w32 (l1 + 1)))) + l2)) 2400 (if h 86 (w32 ((w32 (12 * l1)) + l2)) = h 86 (w32 ((w32 (12 * (w32 (l1 + 1)))) + l2)) then (xlet (w32 (l2 + 1)) (fun x1 => some (Sum.inl x1))) else (some (Sum.inr l2))))) else (some (Sum.inr l2)))) else (some (Sum.inr l2)))
noncomputable def f_Md_alike_2 (l1 : Int) (l2 : Int) (h : xH) : Option Int :=
  xc1 (xloop (fun s : Int => f_Md_alike_s2 l1 s h) l2) (fun b => f_Md_alike_57 b h)
noncomputable def f_Md_alike (l1 : Int) (h : xH) : Option Int :=
  f_Md_alike_2 l1 0 h
noncomputable def f_Md_nodes_53 (l1 : Int) (h : xH) : Option Int :=
  some l1
noncomputable def f_Md_nodes_s20 (l1 : Int) (l2 : Int) (h : xH) : Option ((Int × Int) ⊕ Int) :=
  if w32 (l2 + 1) < h 81 5 then (xgd (w32 (l2 + 1)) 200 (xc1 (f_Md_alike l2 h) (fun r1 => xlet (w32 (l1 + (w32 ((h 85 (w32 (l2 + 1))) - r1)))) (fun x2 => xlet (w32 (l2 + 1)) (fun x3 => some (Sum.inl (x2, x3))))))) else (some (Sum.inr l1))
noncomputable def f_Md_nodes_20 (l1 : Int) (l2 : Int) (h : xH) : Option Int :=
  xc1 (xloop (fun s : (Int × Int) => f_Md_nodes_s20 s.1 s.2 h) (l1, l2)) (fun b => f_Md_nodes_53 b h)
noncomputable def f_Md_nodes  (h : xH) : Option Int :=
  if h 81 5 = 0 then (some 0) else (xgd 0 200 (xlet (w32 (1 + (h 85 0))) (fun x1 => f_Md_nodes_20 x1 0 h)))
noncomputable def f_Md_count (l1 : Int) (h : xH) : Option Int :=
  if l1 = 0 then (some (h 81 5)) else (if l1 = 1 then (xc1 (f_Md_nodes h) (fun r1 => some r1)) else (if l1 = 2 then (some (h 81 16)) else (if l1 = 3 then (some (h 81 61)) else (if l1 = 4 then (some (h 81 1)) else (if l1 = 5 then (some (h 81 39)) else (if l1 = 6 then (some (h 81 40)) else (if l1 = 7 then (some (h 81 53)) else (some (-2)))))))))
noncomputable def f_Md_price_99 (l1 : Int) (l2 : Int) (l3 : Int) (l4 : Int) (h : xH) : Option (Int × xH) :=
  xc1 (f_Md_in l4 0 9999 h) (fun r1 => if r1 = 0 then (some ((-2), h)) else (xc1 (f_Md_in l2 0 25 h) (fun r2 => if r2 = 0 then (some ((-2), h)) else (if l1 = 1 then (xc1 (f_Md_in l3 0 25 h) (fun r3 => if r3 = 0 then (some ((-2), h)) else (if l2 = l3 then (some ((-2), h)) else (xgd (w32 ((w32 (26 * l2)) + l3)) 676 (xlet (h 89 (w32 ((w32 (26 * l2)) + l3))) (fun x4 => xgd (w32 ((w32 (26 * l2)) + l3)) 676 (xlet (xup h 89 (w32 ((w32 (26 * l2)) + l3)) l4) (fun h5 => some (x4, h5))))))))) else (if l1 = 2 then (xgd l2 26 (xlet (h 90 l2) (fun x6 => xgd l2 26 (xlet (xup h 90 l2 l4) (fun h7 => some (x6, h7)))))) else (if l1 = 3 then (xgd l2 26 (xlet (h 91 l2) (fun x8 => xgd l2 26 (xlet (xup h 91 l2 l4) (fun h9 => some (x8, h9)))))) else (some ((-2), h))))))))
noncomputable def f_Md_price (l1 : Int) (l2 : Int) (l3 : Int) (l4 : Int) (h : xH) : Option (Int × xH) :=
  if l2 = (-1) then (if l3 = (-1) then (xc1 (f_Md_in l4 1 9999 h) (fun r1 => if r1 = 0 then (some ((-2), h)) else (xc1 (f_Md_in l1 1 6 h) (fun r2 => if r2 = 0 then (if l1 = 8 then (xlet (h 81 13) (fun x3 => xlet (xup h 81 13 l4) (fun h4 => some (x3, h4)))) else (if l1 = 9 then (xlet (h 81 14) (fun x5 => xlet (xup h 81 14 l4) (fun h6 => some (x5, h6)))) else (some ((-2), h)))) else (xgd l1 7 (xlet (h 88 l1) (fun x7 => xgd l1 7 (xlet (xup h 88 l1 l4) (fun h8 => some (x7, h8)))))))))) else (f_Md_price_99 l1 l2 l3 l4 h)) else (f_Md_price_99 l1 l2 l3 l4 h)
noncomputable def f_Md_sound_120 (l1 : Int) (h : xH) : Option (Int × xH) :=
  xgd (h 81 16) 20 (xlet (xup h 96 (h 81 16) l1) (fun h1 => xlet (xup h1 81 16 (w32 ((h1 81 16) + 1))) (fun h2 => some (h1 81 16, h2))))
noncomputable def f_Md_sound_s68 (l1 : Int) (l3 : Int) (h : xH) : Option ((Int × xH) ⊕ xH) :=
  if l3 < 3 then (xgd l3 144 (xgd (w32 ((w32 (3 * (h 81 16))) + l3)) 60 (xlet (xup h 93 (w32 ((w32 (3 * (h 81 16))) + l3)) (h 84 l3)) (fun h1 => xgd (w32 (12 + l3)) 144 (xgd (w32 ((w32 (3 * (h1 81 16))) + l3)) 60 (xlet (xup h1 95 (w32 ((w32 (3 * (h1 81 16))) + l3)) (h1 84 (w32 (12 + l3)))) (fun h2 => xlet (w32 (l3 + 1)) (fun x3 => some (Sum.inl (x3, h2)))))))))) else (some (Sum.inr h))
noncomputable def f_Md_sound_68 (l1 : Int) (l3 : Int) (h : xH) : Option (Int × xH) :=
  xc1 (xloop (fun s : (Int × xH) => f_Md_sound_s68 l1 s.1 s.2) (l3, h)) (fun b => f_Md_sound_120 l1 b)
noncomputable def f_Md_sound (l1 : Int) (h : xH) : Option (Int × xH) :=
  xc2 (f_Md_readsTwo 3 h) (fun r1 h2 => if r1 = 0 then (some ((-2), h2)) else (xc1 (f_Md_in l1 1 9999 h2) (fun r3 => if r3 = 0 then (some ((-2), h2)) else (if h2 81 16 = 20 then (some ((-4), h2)) else (xgd 0 12 (xgd (h2 81 16) 20 (xlet (xup h2 92 (h2 81 16) (h2 83 0)) (fun h4 => xgd 1 12 (xgd (h4 81 16) 20 (xlet (xup h4 94 (h4 81 16) (h4 83 1)) (fun h5 => f_Md_sound_68 l1 0 h5)))))))))))
noncomputable def f_Md_model (l1 : Int) (h : xH) : Option (Int × xH) :=
  xc1 (f_Md_in l1 0 100000 h) (fun r1 => if r1 = 0 then (some ((-2), h)) else (xlet (h 81 15) (fun x2 => xlet (xup h 81 15 l1) (fun h3 => some (x2, h3)))))
noncomputable def f_Md_share_191 (l2 : Int) (l9 : Int64) (h : xH) : Option Int :=
  some ((Int64.toInt32 (xlshr l9 l2)).toInt)
noncomputable def f_Md_share_184 (l2 : Int) (l9 : Int64) (l11 : Int) (h : xH) : Option Int :=
  xlet (xlshl l9 l11) (fun x1 => f_Md_share_191 l2 x1 h)
noncomputable def f_Md_share_178 (l2 : Int) (l9 : Int64) (l11 : Int) (h : xH) : Option Int :=
  xlet (l9 + (1 : Int64)) (fun x1 => f_Md_share_184 l2 x1 l11 h)
noncomputable def f_Md_share_122 (l2 : Int) (l9 : Int64) (l11 : Int) (h : xH) : Option Int :=
  if 0 < l11 then (xlet (xlshl (1 : Int64) (w32 (l11 - 1))) (fun x1 => xlet (l9 &&& ((xlshl (1 : Int64) l11) - (1 : Int64))) (fun x2 => xlet (xlshr l9 l11) (fun x3 => if 0 < (lg_cmp x2 x1).toInt then (f_Md_share_178 l2 x3 l11 h) else (if (lg_cmp x2 x1).toInt = 0 then (if (lg_cmp (x3 &&& (1 : Int64)) (0 : Int64)).toInt = 0 then (f_Md_share_184 l2 x3 l11 h) else (f_Md_share_178 l2 x3 l11 h)) else (f_Md_share_184 l2 x3 l11 h)))))) else (f_Md_share_191 l2 l9 h)
noncomputable def f_Md_share_s104 (l2 : Int) (l9 : Int64) (l11 : Int) (h : xH) : Option (Int ⊕ Int) :=
  if (lg_cmp (xlshr l9 l11) (16777216 : Int64)).toInt < 0 then (some (Sum.inr l11)) else (xlet (w32 (l11 + 1)) (fun x1 => some (Sum.inl x1)))
noncomputable def f_Md_share_104 (l2 : Int) (l9 : Int64) (l11 : Int) (h : xH) : Option Int :=
  xc1 (xloop (fun s : Int => f_Md_share_s104 l2 l9 s h) l11) (fun b => f_Md_share_122 l2 l9 b h)
noncomputable def f_Md_share_94 (l1 : Int) (l2 : Int) (l5 : Int64) (h : xH) : Option Int :=
  xlet (l5 * (Int32.ofInt l1).toInt64) (fun x1 => f_Md_share_104 l2 x1 0 h)
noncomputable def f_Md_share_88 (l1 : Int) (l2 : Int) (l5 : Int64) (h : xH) : Option Int :=
  xlet (l5 + (1 : Int64)) (fun x1 => f_Md_share_94 l1 l2 x1 h)
noncomputable def f_Md_share_39 (l1 : Int) (l2 : Int) (l3 : Int64) (h : xH) : Option Int :=
  xlet (l3 / (1000 : Int64)) (fun x1 => xlet (l3 - l3 / (1000 : Int64) * (1000 : Int64)) (fun x2 => if 0 < (lg_cmp ((2 : Int64) * x2) (1000 : Int64)).toInt then (f_Md_share_88 l1 l2 x1 h) else (if (lg_cmp ((2 : Int64) * x2) (1000 : Int64)).toInt = 0 then (if (lg_cmp (x1 &&& (1 : Int64)) (0 : Int64)).toInt = 0 then (f_Md_share_94 l1 l2 x1 h) else (f_Md_share_88 l1 l2 x1 h)) else (f_Md_share_94 l1 l2 x1 h))))
noncomputable def f_Md_share_s17 (l1 : Int) (l2 : Int) (l3 : Int64) (h : xH) : Option ((Int × Int64) ⊕ (Int × Int64)) :=
  if (lg_cmp (l3 / (1000 : Int64)) (8388608 : Int64)).toInt < 0 then (xlet (xlshl l3 1) (fun x1 => xlet (w32 (l2 + 1)) (fun x2 => some (Sum.inl (x2, x1))))) else (some (Sum.inr (l2, l3)))
noncomputable def f_Md_share_17 (l1 : Int) (l2 : Int) (l3 : Int64) (h : xH) : Option Int :=
  xc1 (xloop (fun s : (Int × Int64) => f_Md_share_s17 l1 s.1 s.2 h) (l2, l3)) (fun b => f_Md_share_39 l1 b.1 b.2 h)
noncomputable def f_Md_share (l1 : Int) (h : xH) : Option Int :=
  if h 81 15 = 0 then (some 0) else (xlet ((Int32.ofInt (h 81 15)).toInt64) (fun x1 => f_Md_share_17 l1 0 x1 h))
noncomputable def f_Md_swapPrice (l1 : Int) (l2 : Int) (h : xH) : Option Int :=
  xgd (w32 ((w32 (26 * l1)) + l2)) 676 (if 0 < h 89 (w32 ((w32 (26 * l1)) + l2)) then (xgd (w32 ((w32 (26 * l1)) + l2)) 676 (some (h 89 (w32 ((w32 (26 * l1)) + l2))))) else (xgd 1 7 (some (h 88 1))))
noncomputable def f_Md_leftPrice (l1 : Int) (h : xH) : Option Int :=
  xgd l1 26 (if 0 < h 90 l1 then (xgd l1 26 (some (h 90 l1))) else (xgd 2 7 (some (h 88 2))))
noncomputable def f_Md_putPrice (l1 : Int) (h : xH) : Option Int :=
  xgd l1 26 (if 0 < h 91 l1 then (xgd l1 26 (some (h 91 l1))) else (xgd 3 7 (some (h 88 3))))
noncomputable def f_Md_hasSound_122  (h : xH) : Option Int :=
  some 1
noncomputable def f_Md_hasSound_s80 (l1 : Int) (l3 : Int) (l4 : Int) (h : xH) : Option (Int ⊕ (Unit ⊕ Int)) :=
  xgd l1 20 (if l4 < h 94 l1 then (xgd (w32 (l3 + l4)) 12 (xgd (w32 ((w32 (3 * l1)) + l4)) 60 (if h 98 (w32 (l3 + l4)) = h 95 (w32 ((w32 (3 * l1)) + l4)) then (xlet (w32 (l4 + 1)) (fun x1 => some (Sum.inl x1))) else (some (Sum.inr (Sum.inr 0)))))) else (some (Sum.inr (Sum.inl ()))))
noncomputable def f_Md_hasSound_80 (l1 : Int) (l3 : Int) (l4 : Int) (h : xH) : Option Int :=
  xc1 (xloop (fun s : Int => f_Md_hasSound_s80 l1 l3 s h) l4) (fun q => xsw q (fun b => f_Md_hasSound_122 h) (fun r => some r))
noncomputable def f_Md_hasSound_77 (l1 : Int) (l3 : Int) (h : xH) : Option Int :=
  f_Md_hasSound_80 l1 l3 0 h
noncomputable def f_Md_hasSound_s35 (l1 : Int) (l2 : Int) (l3 : Int) (l4 : Int) (h : xH) : Option (Int ⊕ (Unit ⊕ Int)) :=
  xgd l1 20 (if l4 < h 92 l1 then (xgd (w32 (l2 + l4)) 12 (xgd (w32 ((w32 (3 * l1)) + l4)) 60 (if h 97 (w32 (l2 + l4)) = h 93 (w32 ((w32 (3 * l1)) + l4)) then (xlet (w32 (l4 + 1)) (fun x1 => some (Sum.inl x1))) else (some (Sum.inr (Sum.inr 0)))))) else (some (Sum.inr (Sum.inl ()))))
noncomputable def f_Md_hasSound_35 (l1 : Int) (l2 : Int) (l3 : Int) (l4 : Int) (h : xH) : Option Int :=
  xc1 (xloop (fun s : Int => f_Md_hasSound_s35 l1 l2 l3 s h) l4) (fun q => xsw q (fun b => f_Md_hasSound_77 l1 l3 h) (fun r => some r))
noncomputable def f_Md_hasSound (l1 : Int) (l2 : Int) (l3 : Int) (h : xH) : Option Int :=
  xgd l1 20 (if h 81 22 < w32 (l2 + (h 92 l1)) then (some 0) else (xgd l1 20 (if h 81 23 < w32 (l3 + (h 94 l1)) then (some 0) else (f_Md_hasSound_35 l1 l2 l3 0 h))))
noncomputable def f_Md_slip_39 (l1 : Int) (l2 : Int) (l3 : Int) (l4 : Int) (l5 : Int) (s0 : Int) (h : xH) : Option (Int × xH) :=
  if l1 = 0 then (if l5 = 0 then (some (1000000, h)) else (if s0 = 0 then (some (1000000, h)) else (xgd l3 12 (xgd l4 12 (if h 97 l3 = h 98 l4 then (some (0, h)) else (some (1000000, h))))))) else (if l1 = 1 then (if l5 = 0 then (some (1000000, h)) else (if s0 = 0 then (some (1000000, h)) else (xgd l3 12 (xgd l4 12 (if h 97 l3 = h 98 l4 then (some (1000000, h)) else (xgd l3 12 (xgd l4 12 (xc1 (f_Md_swapPrice (h 97 l3) (h 98 l4) h) (fun r1 => some (r1, h)))))))))) else (if l1 = 2 then (xlet (xup h 81 84 0) (fun h2 => if l5 = 0 then (some (1000000, h2)) else (xgd l3 12 (xc1 (f_Md_leftPrice (h2 97 l3) h2) (fun r3 => some (r3, h2)))))) else (if l1 = 3 then (xlet (xup h 81 83 0) (fun h4 => if s0 = 0 then (some (1000000, h4)) else (xgd l4 12 (xc1 (f_Md_putPrice (h4 98 l4) h4) (fun r5 => some (r5, h4)))))) else (if l1 = 4 then (xlet (xup h 81 83 2) (fun h6 => xlet (xup h6 81 84 2) (fun h7 => if w32 (l3 + 1) < h7 81 22 then (if w32 (l4 + 1) < h7 81 23 then (xgd l3 12 (xgd (w32 (l3 + 1)) 12 (if h7 97 l3 = h7 97 (w32 (l3 + 1)) then (some (1000000, h7)) else (xgd l3 12 (xgd (w32 (l4 + 1)) 12 (if h7 97 l3 = h7 98 (w32 (l4 + 1)) then (xgd (w32 (l3 + 1)) 12 (xgd l4 12 (if h7 97 (w32 (l3 + 1)) = h7 98 l4 then (xgd 4 7 (some (h7 88 4, h7))) else (some (1000000, h7))))) else (some (1000000, h7)))))))) else (some (1000000, h7))) else (some (1000000, h7))))) else (if l1 = 5 then (xlet (xup h 81 84 2) (fun h8 => if l5 = 0 then (some (1000000, h8)) else (if w32 (l4 + 1) < h8 81 23 then (xgd l3 12 (xgd l4 12 (if h8 97 l3 = h8 98 l4 then (xgd l3 12 (xgd (w32 (l4 + 1)) 12 (if h8 97 l3 = h8 98 (w32 (l4 + 1)) then (xgd 5 7 (some (h8 88 5, h8))) else (some (1000000, h8))))) else (some (1000000, h8))))) else (some (1000000, h8))))) else (if l1 = 6 then (xlet (xup h 81 83 2) (fun h9 => if w32 (l3 + 1) < h9 81 22 then (if s0 = 0 then (some (1000000, h9)) else (xgd l3 12 (xgd (w32 (l3 + 1)) 12 (if h9 97 l3 = h9 97 (w32 (l3 + 1)) then (xgd l3 12 (xgd l4 12 (if h9 97 l3 = h9 98 l4 then (xgd 6 7 (some (h9 88 6, h9))) else (some (1000000, h9))))) else (some (1000000, h9)))))) else (some (1000000, h9)))) else (xgd l2 20 (xlet (xup h 81 83 (h 92 l2)) (fun h10 => xgd l2 20 (xlet (xup h10 81 84 (h10 94 l2)) (fun h11 => xc1 (f_Md_hasSound l2 l3 l4 h11) (fun r12 => if r12 = 0 then (some (1000000, h11)) else (xgd l2 20 (some (h11 96 l2, h11)))))))))))))))
noncomputable def f_Md_slip_23 (l1 : Int) (l2 : Int) (l3 : Int) (l4 : Int) (s0 : Int) (h : xH) : Option (Int × xH) :=
  if l4 < h 81 23 then (f_Md_slip_39 l1 l2 l3 l4 s0 1 h) else (f_Md_slip_39 l1 l2 l3 l4 s0 0 h)
noncomputable def f_Md_slip (l1 : Int) (l2 : Int) (l3 : Int) (l4 : Int) (h : xH) : Option (Int × xH) :=
  xlet (xup h 81 83 1) (fun h1 => xlet (xup h1 81 84 1) (fun h2 => if l3 < h2 81 22 then (f_Md_slip_23 l1 l2 l3 l4 1 h2) else (f_Md_slip_23 l1 l2 l3 l4 0 h2)))
noncomputable def f_Md_sums_144  (h : xH) : Option xH :=
  some h
noncomputable def f_Md_sums_138 (l1 : Int) (h : xH) : Option ((Int × xH) ⊕ xH) :=
  xlet (w32 (l1 + (-1))) (fun x1 => some (Sum.inl (x1, h)))
noncomputable def f_Md_sums_120 (l1 : Int) (l2 : Int) (l3 : Int) (h : xH) : Option ((Int × xH) ⊕ xH) :=
  xgd (w32 ((w32 (13 * l1)) + l2)) 169 (xlet (xup h 99 (w32 ((w32 (13 * l1)) + l2)) l3) (fun h1 => xlet (w32 (l2 + (-1))) (fun x2 => some (Sum.inl (x2, h1)))))
noncomputable def f_Md_sums_114 (l1 : Int) (l2 : Int) (l3 : Int) (l4 : Int) (h : xH) : Option ((Int × Int × xH) ⊕ (Int × xH)) :=
  xlet (w32 (l4 + 1)) (fun x1 => some (Sum.inl (l3, x1, h)))
noncomputable def f_Md_sums_s45 (l1 : Int) (l2 : Int) (l3 : Int) (l4 : Int) (h : xH) : Option ((Int × Int × xH) ⊕ (Int × xH)) :=
  if l4 < w32 (7 + (h 81 16)) then (xc1 (f_Md_min l4 7 h) (fun r1 => xc2 (f_Md_slip r1 (w32 (l4 - 7)) l1 l2 h) (fun r2 h3 => if r2 < 1000000 then (xgd (w32 ((w32 ((w32 (13 * (w32 (l1 + (h3 81 83))))) + l2)) + (h3 81 84))) 169 (xc1 (f_Md_min l3 (w32 (r2 + (h3 99 (w32 ((w32 ((w32 (13 * (w32 (l1 + (h3 81 83))))) + l2)) + (h3 81 84)))))) h3) (fun r4 => f_Md_sums_114 l1 l2 r4 l4 h3))) else (f_Md_sums_114 l1 l2 l3 l4 h3)))) else (some (Sum.inr (l3, h)))
noncomputable def f_Md_sums_45 (l1 : Int) (l2 : Int) (l3 : Int) (l4 : Int) (h : xH) : Option ((Int × xH) ⊕ xH) :=
  xc1 (xloop (fun s : (Int × Int × xH) => f_Md_sums_s45 l1 l2 s.1 s.2.1 s.2.2) (l3, l4, h)) (fun b => f_Md_sums_120 l1 l2 b.1 b.2)
noncomputable def f_Md_sums_41 (l1 : Int) (l2 : Int) (s0 : Int) (h : xH) : Option ((Int × xH) ⊕ xH) :=
  f_Md_sums_45 l1 l2 s0 0 h
noncomputable def f_Md_sums_38 (l1 : Int) (l2 : Int) (h : xH) : Option ((Int × xH) ⊕ xH) :=
  f_Md_sums_41 l1 l2 1000000 h
noncomputable def f_Md_sums_s14 (l1 : Int) (l2 : Int) (h : xH) : Option ((Int × xH) ⊕ xH) :=
  if l2 < 0 then (some (Sum.inr h)) else (if l1 = h 81 22 then (if l2 = h 81 23 then (f_Md_sums_41 l1 l2 0 h) else (f_Md_sums_38 l1 l2 h)) else (f_Md_sums_38 l1 l2 h))
noncomputable def f_Md_sums_14 (l1 : Int) (l2 : Int) (h : xH) : Option ((Int × xH) ⊕ xH) :=
  xc1 (xloop (fun s : (Int × xH) => f_Md_sums_s14 l1 s.1 s.2) (l2, h)) (fun b => f_Md_sums_138 l1 b)
noncomputable def f_Md_sums_s5 (l1 : Int) (h : xH) : Option ((Int × xH) ⊕ xH) :=
  if l1 < 0 then (some (Sum.inr h)) else (xlet (h 81 23) (fun x1 => f_Md_sums_14 l1 x1 h))
noncomputable def f_Md_sums_5 (l1 : Int) (h : xH) : Option xH :=
  xc1 (xloop (fun s : (Int × xH) => f_Md_sums_s5 s.1 s.2) (l1, h)) (fun b => f_Md_sums_144 b)
noncomputable def f_Md_sums  (h : xH) : Option xH :=
  xlet (h 81 22) (fun x1 => f_Md_sums_5 x1 h)
noncomputable def f_Md_ways_203  (h : xH) : Option xH :=
  some h
noncomputable def f_Md_ways_175 (l1 : Int) (l2 : Int) (s1 : Int) (s2 : Int) (h : xH) : Option ((Int × Int × xH) ⊕ xH) :=
  xgd s1 24 (xlet (xup h 104 s1 s2) (fun h1 => xlet (xup h1 81 27 (w32 ((h1 81 27) + 1))) (fun h2 => xlet (w32 (l1 + (h2 81 83))) (fun x3 => xlet (w32 (l2 + (h2 81 84))) (fun x4 => some (Sum.inl (x3, x4, h2)))))))
noncomputable def f_Md_ways_107 (l1 : Int) (l2 : Int) (l3 : Int) (l4 : Int) (h : xH) : Option ((Int × Int × xH) ⊕ xH) :=
  xc1 (f_Md_min l3 7 h) (fun r1 => xgd (h 81 27) 24 (xlet (xup h 100 (h 81 27) r1) (fun h2 => xgd (h2 81 27) 24 (xlet (xup h2 101 (h2 81 27) l4) (fun h3 => xgd (h3 81 27) 24 (xlet (xup h3 102 (h3 81 27) l1) (fun h4 => xgd (h4 81 27) 24 (xlet (xup h4 103 (h4 81 27) l2) (fun h5 => if l3 < 7 then (f_Md_ways_175 l1 l2 (h5 81 27) (-1) h5) else (f_Md_ways_175 l1 l2 (h5 81 27) (w32 (l3 - 7)) h5))))))))))
noncomputable def f_Md_ways_83 (l1 : Int) (l2 : Int) (l3 : Int) (h : xH) : Option ((Int × Int × xH) ⊕ (Int × Int × xH)) :=
  xlet (w32 (l3 + 1)) (fun x1 => xc1 (f_Md_min x1 7 h) (fun r2 => xc2 (f_Md_slip r2 (w32 (x1 - 7)) l1 l2 h) (fun r3 h4 => some (Sum.inl (x1, r3, h4)))))
noncomputable def f_Md_ways_s37 (l1 : Int) (l2 : Int) (l3 : Int) (l4 : Int) (h : xH) : Option ((Int × Int × xH) ⊕ (Int × Int × xH)) :=
  if l4 < 1000000 then (xgd (w32 ((w32 ((w32 (13 * (w32 (l1 + (h 81 83))))) + l2)) + (h 81 84))) 169 (xgd (w32 ((w32 (13 * l1)) + l2)) 169 (if w32 (l4 + (h 99 (w32 ((w32 ((w32 (13 * (w32 (l1 + (h 81 83))))) + l2)) + (h 81 84))))) = h 99 (w32 ((w32 (13 * l1)) + l2)) then (some (Sum.inr (l3, l4, h))) else (f_Md_ways_83 l1 l2 l3 h)))) else (f_Md_ways_83 l1 l2 l3 h)
noncomputable def f_Md_ways_37 (l1 : Int) (l2 : Int) (l3 : Int) (l4 : Int) (h : xH) : Option ((Int × Int × xH) ⊕ xH) :=
  xc1 (xloop (fun s : (Int × Int × xH) => f_Md_ways_s37 l1 l2 s.1 s.2.1 s.2.2) (l3, l4, h)) (fun b => f_Md_ways_107 l1 l2 b.1 b.2.1 b.2.2)
noncomputable def f_Md_ways_25 (l1 : Int) (l2 : Int) (h : xH) : Option ((Int × Int × xH) ⊕ xH) :=
  xc2 (f_Md_slip 0 (-1) l1 l2 h) (fun r1 h2 => f_Md_ways_37 l1 l2 0 r1 h2)
noncomputable def f_Md_ways_s9 (l1 : Int) (l2 : Int) (h : xH) : Option ((Int × Int × xH) ⊕ xH) :=
  if l1 < h 81 22 then (f_Md_ways_25 l1 l2 h) else (if l2 < h 81 23 then (f_Md_ways_25 l1 l2 h) else (some (Sum.inr h)))
noncomputable def f_Md_ways_9 (l1 : Int) (l2 : Int) (h : xH) : Option xH :=
  xc1 (xloop (fun s : (Int × Int × xH) => f_Md_ways_s9 s.1 s.2.1 s.2.2) (l1, l2, h)) (fun b => f_Md_ways_203 b)
noncomputable def f_Md_ways  (h : xH) : Option xH :=
  xlet (xup h 81 27 0) (fun h1 => f_Md_ways_9 0 0 h1)
noncomputable def f_Md_distance_114  (h : xH) : Option (Int × xH) :=
  xgd 0 169 (some (h 99 0, h))
noncomputable def f_Md_distance_s40 (l1 : Int) (h : xH) : Option ((Int × xH) ⊕ xH) :=
  if l1 < h 81 27 then (xgd l1 24 (xgd l1 24 (xlet (xup h 105 l1 (h 100 l1)) (fun h1 => xgd l1 24 (xgd l1 24 (xlet (xup h1 106 l1 (h1 101 l1)) (fun h2 => xgd l1 24 (xgd l1 24 (xlet (xup h2 107 l1 (h2 102 l1)) (fun h3 => xgd l1 24 (xgd l1 24 (xlet (xup h3 108 l1 (h3 103 l1)) (fun h4 => xgd l1 24 (xgd l1 24 (xlet (xup h4 109 l1 (h4 104 l1)) (fun h5 => xlet (w32 (l1 + 1)) (fun x6 => some (Sum.inl (x6, h5))))))))))))))))))) else (some (Sum.inr h))
noncomputable def f_Md_distance_40 (l1 : Int) (h : xH) : Option (Int × xH) :=
  xc1 (xloop (fun s : (Int × xH) => f_Md_distance_s40 s.1 s.2) (l1, h)) (fun b => f_Md_distance_114 b)
noncomputable def f_Md_distance  (h : xH) : Option (Int × xH) :=
  xc2 (f_Md_readsTwo 12 h) (fun r1 h2 => if r1 = 0 then (some ((-2), h2)) else (xc1 (f_Md_takeA 0 h2) (fun h3 => xc1 (f_Md_takeB 1 h3) (fun h4 => xc1 (f_Md_sums h4) (fun h5 => xc1 (f_Md_ways h5) (fun h6 => xlet (xup h6 81 33 (h6 81 27)) (fun h7 => f_Md_distance_40 0 h7)))))))
noncomputable def f_Md_way (l1 : Int) (l2 : Int) (h : xH) : Option Int :=
  xc1 (f_Md_in l2 0 4 h) (fun r1 => if r1 = 0 then (some (-2)) else (if h 81 33 = (-1) then (if l1 = (-1) then (some 0) else (some (-1))) else (if l1 = (-1) then (some (h 81 33)) else (xc1 (f_Md_in l1 0 (w32 ((h 81 33) - 1)) h) (fun r2 => if r2 = 0 then (some (-1)) else (if l2 = 0 then (xgd l1 24 (some (h 105 l1))) else (if l2 = 1 then (xgd l1 24 (some (h 106 l1))) else (if l2 = 2 then (xgd l1 24 (some (h 107 l1))) else (if l2 = 3 then (xgd l1 24 (some (h 108 l1))) else (xgd l1 24 (some (h 109 l1))))))))))))
noncomputable def f_Md_stateRow_264  (h : xH) : Option xH :=
  some h
noncomputable def f_Md_stateRow_246 (l1 : Int) (l2 : Int) (l3 : Int) (h : xH) : Option ((Int × xH) ⊕ xH) :=
  xgd (w32 ((w32 (13 * l1)) + l2)) 169 (xlet (xup h 116 (w32 ((w32 (13 * l1)) + l2)) l3) (fun h1 => xlet (w32 (l2 + 1)) (fun x2 => some (Sum.inl (x2, h1)))))
noncomputable def f_Md_stateRow_240 (l1 : Int) (l2 : Int) (l3 : Int) (l4 : Int) (h : xH) : Option ((Int × Int × xH) ⊕ (Int × xH)) :=
  xlet (w32 (l4 + 1)) (fun x1 => some (Sum.inl (l3, x1, h)))
noncomputable def f_Md_stateRow_152 (l1 : Int) (l2 : Int) (l3 : Int) (l4 : Int) (l5 : Int) (l6 : Int) (s0 : Int) (h : xH) : Option ((Int × Int × xH) ⊕ (Int × xH)) :=
  if w32 (l1 - l6) < 0 then (f_Md_stateRow_240 l1 l2 l3 l4 h) else (if w32 (l2 - s0) < 0 then (f_Md_stateRow_240 l1 l2 l3 l4 h) else (xgd (w32 ((w32 ((w32 (13 * (w32 (l1 - l6)))) + l2)) - s0)) 169 (xlet (h 116 (w32 ((w32 ((w32 (13 * (w32 (l1 - l6)))) + l2)) - s0))) (fun x1 => if x1 < 1000000 then (xc2 (f_Md_slip l5 (w32 (l4 - 7)) (w32 (l1 - l6)) (w32 (l2 - s0)) h) (fun r2 h3 => if r2 < 1000000 then (xc1 (f_Md_min l3 (w32 (r2 + x1)) h3) (fun r4 => f_Md_stateRow_240 l1 l2 r4 l4 h3)) else (f_Md_stateRow_240 l1 l2 l3 l4 h3))) else (f_Md_stateRow_240 l1 l2 l3 l4 h)))))
noncomputable def f_Md_stateRow_147 (l1 : Int) (l2 : Int) (l3 : Int) (l4 : Int) (l5 : Int) (l6 : Int) (h : xH) : Option ((Int × Int × xH) ⊕ (Int × xH)) :=
  f_Md_stateRow_152 l1 l2 l3 l4 l5 l6 2 h
noncomputable def f_Md_stateRow_103 (l1 : Int) (l2 : Int) (l3 : Int) (l4 : Int) (l5 : Int) (s0 : Int) (h : xH) : Option ((Int × Int × xH) ⊕ (Int × xH)) :=
  if l5 = 7 then (xgd (w32 (l4 - 7)) 20 (f_Md_stateRow_152 l1 l2 l3 l4 l5 s0 (h 94 (w32 (l4 - 7))) h)) else (if l5 = 2 then (f_Md_stateRow_152 l1 l2 l3 l4 l5 s0 0 h) else (if l5 = 4 then (f_Md_stateRow_147 l1 l2 l3 l4 l5 s0 h) else (if l5 = 5 then (f_Md_stateRow_147 l1 l2 l3 l4 l5 s0 h) else (f_Md_stateRow_152 l1 l2 l3 l4 l5 s0 1 h))))
noncomputable def f_Md_stateRow_98 (l1 : Int) (l2 : Int) (l3 : Int) (l4 : Int) (l5 : Int) (h : xH) : Option ((Int × Int × xH) ⊕ (Int × xH)) :=
  f_Md_stateRow_103 l1 l2 l3 l4 l5 2 h
noncomputable def f_Md_stateRow_s34 (l1 : Int) (l2 : Int) (l3 : Int) (l4 : Int) (h : xH) : Option ((Int × Int × xH) ⊕ (Int × xH)) :=
  if l4 < w32 (7 + (h 81 16)) then (xc1 (f_Md_min l4 7 h) (fun r1 => if r1 = 7 then (xgd (w32 (l4 - 7)) 20 (f_Md_stateRow_103 l1 l2 l3 l4 r1 (h 92 (w32 (l4 - 7))) h)) else (if r1 = 3 then (f_Md_stateRow_103 l1 l2 l3 l4 r1 0 h) else (if r1 = 4 then (f_Md_stateRow_98 l1 l2 l3 l4 r1 h) else (if r1 = 6 then (f_Md_stateRow_98 l1 l2 l3 l4 r1 h) else (f_Md_stateRow_103 l1 l2 l3 l4 r1 1 h)))))) else (some (Sum.inr (l3, h)))
noncomputable def f_Md_stateRow_34 (l1 : Int) (l2 : Int) (l3 : Int) (l4 : Int) (h : xH) : Option ((Int × xH) ⊕ xH) :=
  xc1 (xloop (fun s : (Int × Int × xH) => f_Md_stateRow_s34 l1 l2 s.1 s.2.1 s.2.2) (l3, l4, h)) (fun b => f_Md_stateRow_246 l1 l2 b.1 b.2)
noncomputable def f_Md_stateRow_30 (l1 : Int) (l2 : Int) (s0 : Int) (h : xH) : Option ((Int × xH) ⊕ xH) :=
  f_Md_stateRow_34 l1 l2 s0 0 h
noncomputable def f_Md_stateRow_27 (l1 : Int) (l2 : Int) (h : xH) : Option ((Int × xH) ⊕ xH) :=
  f_Md_stateRow_30 l1 l2 1000000 h
noncomputable def f_Md_stateRow_s7 (l1 : Int) (l2 : Int) (h : xH) : Option ((Int × xH) ⊕ xH) :=
  if h 81 23 < l2 then (some (Sum.inr h)) else (if l1 = 0 then (if l2 = 0 then (f_Md_stateRow_30 l1 l2 0 h) else (f_Md_stateRow_27 l1 l2 h)) else (f_Md_stateRow_27 l1 l2 h))
noncomputable def f_Md_stateRow_7 (l1 : Int) (l2 : Int) (h : xH) : Option xH :=
  xc1 (xloop (fun s : (Int × xH) => f_Md_stateRow_s7 l1 s.1 s.2) (l2, h)) (fun b => f_Md_stateRow_264 b)
noncomputable def f_Md_stateRow (l1 : Int) (h : xH) : Option xH :=
  xlet (xup h 81 22 l1) (fun h1 => f_Md_stateRow_7 l1 0 h1)
noncomputable def f_Md_leastOf_36 (l2 : Int) (h : xH) : Option Int :=
  some l2
noncomputable def f_Md_leastOf_s6 (l1 : Int) (l2 : Int) (l3 : Int) (h : xH) : Option ((Int × Int) ⊕ Int) :=
  if h 81 23 < l3 then (some (Sum.inr l2)) else (xgd (w32 ((w32 (13 * l1)) + l3)) 169 (xc1 (f_Md_min l2 (h 116 (w32 ((w32 (13 * l1)) + l3))) h) (fun r1 => xlet (w32 (l3 + 1)) (fun x2 => some (Sum.inl (r1, x2))))))
noncomputable def f_Md_leastOf_6 (l1 : Int) (l2 : Int) (l3 : Int) (h : xH) : Option Int :=
  xc1 (xloop (fun s : (Int × Int) => f_Md_leastOf_s6 l1 s.1 s.2 h) (l2, l3)) (fun b => f_Md_leastOf_36 b h)
noncomputable def f_Md_leastOf (l1 : Int) (h : xH) : Option Int :=
  f_Md_leastOf_6 l1 1000000 0 h
noncomputable def f_Md_meets_184 (l4 : Int) (h : xH) : Option (Int × xH) :=
  xlet (xup h 81 39 (w32 ((h 81 39) + 1))) (fun h1 => if l4 = 0 then (xgb l4 (some (l4, h1))) else (xlet (xup h1 81 40 (w32 ((h1 81 40) + 1))) (fun h2 => xgb l4 (some (l4, h2)))))
noncomputable def f_Md_meets_s142 (l1 : Int) (l4 : Int) (l5 : Int) (h : xH) : Option ((Int × xH) ⊕ xH) :=
  if h 81 23 < l5 then (some (Sum.inr h)) else (xgd (w32 ((w32 (13 * l1)) + l5)) 169 (xgd (w32 ((w32 (13 * (h 81 39))) + l5)) 31213 (xlet (xup h 115 (w32 ((w32 (13 * (h 81 39))) + l5)) (h 116 (w32 ((w32 (13 * l1)) + l5)))) (fun h1 => xlet (w32 (l5 + 1)) (fun x2 => some (Sum.inl (x2, h1)))))))
noncomputable def f_Md_meets_142 (l1 : Int) (l4 : Int) (l5 : Int) (h : xH) : Option (Int × xH) :=
  xc1 (xloop (fun s : (Int × xH) => f_Md_meets_s142 l1 l4 s.1 s.2) (l5, h)) (fun b => f_Md_meets_184 l4 b)
noncomputable def f_Md_meets_138 (l1 : Int) (l4 : Int) (s1 : Int) (s2 : Int) (h : xH) : Option (Int × xH) :=
  xgd s1 2401 (xlet (xup h 114 s1 s2) (fun h1 => f_Md_meets_142 l1 l4 0 h1))
noncomputable def f_Md_meets_120 (l1 : Int) (l3 : Int) (l4 : Int) (s1 : Int) (s2 : Int) (h : xH) : Option (Int × xH) :=
  xgd s1 2401 (xlet (xup h 113 s1 s2) (fun h1 => if l3 = 0 then (f_Md_meets_138 l1 l4 (h1 81 39) 0 h1) else (f_Md_meets_138 l1 l4 (h1 81 39) 1 h1)))
noncomputable def f_Md_meets_87 (l1 : Int) (l3 : Int) (l4 : Int) (s1 : Int) (s2 : Int) (h : xH) : Option (Int × xH) :=
  xgd s1 2401 (xlet (xup h 111 s1 s2) (fun h1 => xc1 (f_Md_leastOf l1 h1) (fun r2 => xgd (h1 81 39) 2401 (xlet (xup h1 112 (h1 81 39) r2) (fun h3 => if l4 = 0 then (f_Md_meets_120 l1 l3 l4 (h3 81 39) 0 h3) else (f_Md_meets_120 l1 l3 l4 (h3 81 39) 1 h3))))))
noncomputable def f_Md_meets_51 (l1 : Int) (l3 : Int) (s0 : Int) (h : xH) : Option (Int × xH) :=
  xgd (h 81 39) 2401 (xlet (xup h 110 (h 81 39) l1) (fun h1 => if l1 = 0 then (f_Md_meets_87 l1 l3 s0 (h1 81 39) (-1) h1) else (xgd (w32 (l1 - 1)) 12 (f_Md_meets_87 l1 l3 s0 (h1 81 39) (h1 97 (w32 (l1 - 1))) h1))))
noncomputable def f_Md_meets_50 (l1 : Int) (l3 : Int) (h : xH) : Option (Int × xH) :=
  f_Md_meets_51 l1 l3 0 h
noncomputable def f_Md_meets_46 (l1 : Int) (l3 : Int) (h : xH) : Option (Int × xH) :=
  f_Md_meets_51 l1 l3 1 h
noncomputable def f_Md_meets_30 (l1 : Int) (l2 : Int) (l3 : Int) (h : xH) : Option (Int × xH) :=
  if l1 < 2 then (f_Md_meets_46 l1 l3 h) else (xc1 (f_Md_leastOf (w32 (l1 - 2)) h) (fun r1 => if l2 < r1 then (f_Md_meets_46 l1 l3 h) else (f_Md_meets_50 l1 l3 h)))
noncomputable def f_Md_meets (l1 : Int) (l2 : Int) (l3 : Int) (h : xH) : Option (Int × xH) :=
  xc1 (f_Md_stateRow l1 h) (fun h1 => xc1 (f_Md_leastOf l1 h1) (fun r2 => if l2 < r2 then (if l1 < 1 then (f_Md_meets_30 l1 l2 l3 h1) else (xc1 (f_Md_leastOf (w32 (l1 - 1)) h1) (fun r3 => if l2 < r3 then (f_Md_meets_30 l1 l2 l3 h1) else (f_Md_meets_50 l1 l3 h1)))) else (f_Md_meets_50 l1 l3 h1)))
noncomputable def f_Md_walk_257  (h : xH) : Option xH :=
  some h
noncomputable def f_Md_walk_253 (l1 : Int) (l2 : Int) (s1 : Int) (s2 : Int) (h : xH) : Option ((Int × xH) ⊕ xH) :=
  xgd s1 13 (xlet (xup h 120 s1 s2) (fun h1 => some (Sum.inl (l2, h1))))
noncomputable def f_Md_walk_217 (l1 : Int) (l2 : Int) (l4 : Int) (l6 : Int) (s1 : Int) (s2 : Int) (s3 : Int) (h : xH) : Option ((Int × xH) ⊕ xH) :=
  xc2 (f_Md_meets s1 s2 s3 h) (fun r1 h2 => xgd l2 13 (xlet (xup h2 118 l2 l4) (fun h3 => xgd l2 13 (xlet (xup h3 119 l2 l6) (fun h4 => if r1 = 0 then (f_Md_walk_253 l1 l2 l2 l4 h4) else (f_Md_walk_253 l1 l2 l2 l6 h4))))))
noncomputable def f_Md_walk_177 (l1 : Int) (l2 : Int) (l4 : Int) (l5 : Int) (l6 : Int) (h : xH) : Option ((Int × xH) ⊕ xH) :=
  xgd l2 13 (xlet (xup h 120 l2 l6) (fun h1 => xlet (w32 (l2 + 1)) (fun x2 => xgd (w32 (x2 - 1)) 12 (xlet (xup h1 97 (w32 (x2 - 1)) l5) (fun h3 => xgd l4 200 (if h3 85 l4 = x2 then (f_Md_walk_217 l1 x2 l4 l6 x2 l1 1 h3) else (f_Md_walk_217 l1 x2 l4 l6 x2 l1 0 h3)))))))
noncomputable def f_Md_walk_s143 (l1 : Int) (l2 : Int) (l4 : Int) (l5 : Int) (l6 : Int) (h : xH) : Option (Int ⊕ Int) :=
  xgd l2 13 (if l6 < h 119 l2 then (xgd (w32 ((w32 (12 * l6)) + l2)) 2400 (if h 86 (w32 ((w32 (12 * l6)) + l2)) = l5 then (xlet (w32 (l6 + 1)) (fun x1 => some (Sum.inl x1))) else (some (Sum.inr l6)))) else (some (Sum.inr l6)))
noncomputable def f_Md_walk_143 (l1 : Int) (l2 : Int) (l4 : Int) (l5 : Int) (l6 : Int) (h : xH) : Option ((Int × xH) ⊕ xH) :=
  xc1 (xloop (fun s : Int => f_Md_walk_s143 l1 l2 l4 l5 s h) l6) (fun b => f_Md_walk_177 l1 l2 l4 l5 b h)
noncomputable def f_Md_walk_108 (l1 : Int) (l2 : Int) (l4 : Int) (h : xH) : Option ((Int × xH) ⊕ xH) :=
  xgd l2 13 (if l4 < h 119 l2 then (xgd (w32 ((w32 (12 * l4)) + l2)) 2400 (xlet (h 86 (w32 ((w32 (12 * l4)) + l2))) (fun x1 => f_Md_walk_143 l1 l2 l4 x1 l4 h))) else (xlet (w32 (l2 + (-1))) (fun x2 => some (Sum.inl (x2, h)))))
noncomputable def f_Md_walk_s71 (l1 : Int) (l2 : Int) (h : xH) : Option ((Int × xH) ⊕ xH) :=
  if l2 < 0 then (some (Sum.inr h)) else (xgd l2 13 (xlet (h 120 l2) (fun x1 => xgd l2 13 (if x1 < h 119 l2 then (xgd x1 200 (if h 85 x1 = l2 then (xlet (w32 (x1 + 1)) (fun x2 => f_Md_walk_108 l1 l2 x2 h)) else (f_Md_walk_108 l1 l2 x1 h))) else (f_Md_walk_108 l1 l2 x1 h)))))
noncomputable def f_Md_walk_71 (l1 : Int) (l2 : Int) (h : xH) : Option xH :=
  xc1 (xloop (fun s : (Int × xH) => f_Md_walk_s71 l1 s.1 s.2) (l2, h)) (fun b => f_Md_walk_257 b)
noncomputable def f_Md_walk_70 (l1 : Int) (l2 : Int) (s1 : Int) (s2 : Int) (h : xH) : Option xH :=
  xgd s1 13 (xlet (xup h 120 s1 s2) (fun h1 => f_Md_walk_71 l1 l2 h1))
noncomputable def f_Md_walk (l1 : Int) (h : xH) : Option xH :=
  xlet (xup h 81 39 0) (fun h1 => xlet (xup h1 81 40 0) (fun h2 => xlet (xup h2 81 47 (h2 81 23)) (fun h3 => if h3 81 5 = 0 then (some h3) else (xc2 (f_Md_meets 0 l1 0 h3) (fun r4 h5 => xgd 0 13 (xlet (xup h5 118 0 0) (fun h6 => xgd 0 13 (xlet (xup h6 119 0 (h6 81 5)) (fun h7 => if r4 = 0 then (f_Md_walk_70 l1 0 0 0 h7) else (f_Md_walk_70 l1 0 0 (h7 81 5) h7))))))))))
noncomputable def f_Md_distanceTo (l1 : Int) (h : xH) : Option (Int × xH) :=
  xc1 (f_Md_wordA l1 h) (fun h1 => xc1 (f_Md_sums h1) (fun h2 => xgd 0 169 (some (h2 99 0, h2))))
noncomputable def f_Md_beginningTo_60 (l3 : Int) (h : xH) : Option (Int × xH) :=
  some (l3, h)
noncomputable def f_Md_beginningTo_s17 (l2 : Int) (l3 : Int) (l4 : Int) (h : xH) : Option ((Int × Int × xH) ⊕ (Int × xH)) :=
  if l2 < l4 then (some (Sum.inr (l3, h))) else (xlet (xup h 81 22 l2) (fun h1 => xc1 (f_Md_stateRow l4 h1) (fun h2 => xgd (w32 ((w32 (13 * l4)) + (h2 81 23))) 169 (xc1 (f_Md_min l3 (h2 116 (w32 ((w32 (13 * l4)) + (h2 81 23)))) h2) (fun r3 => xlet (w32 (l4 + 1)) (fun x4 => some (Sum.inl (r3, x4, h2))))))))
noncomputable def f_Md_beginningTo_17 (l2 : Int) (l3 : Int) (l4 : Int) (h : xH) : Option (Int × xH) :=
  xc1 (xloop (fun s : (Int × Int × xH) => f_Md_beginningTo_s17 l2 s.1 s.2.1 s.2.2) (l3, l4, h)) (fun b => f_Md_beginningTo_60 b.1 b.2)
noncomputable def f_Md_beginningTo (l1 : Int) (h : xH) : Option (Int × xH) :=
  xc1 (f_Md_wordA l1 h) (fun h1 => xlet (h1 81 22) (fun x2 => f_Md_beginningTo_17 x2 1000000 0 h1))
noncomputable def f_Md_isAhead (l1 : Int) (l2 : Int) (l3 : Int) (l4 : Int) (h : xH) : Option Int :=
  xlet (w32 (l2 - l3)) (fun x1 => xgd l4 200 (xgd l4 200 (xlet (w32 ((h 125 l4) - (h 126 l4))) (fun x2 => if x1 = x2 then (xgd l1 200 (xgd l4 200 (xgd (h 124 l4) 200 (if h 87 l1 = h 87 (h 124 l4) then (xgd l4 200 (if l1 < h 124 l4 then (some 1) else (some 0))) else (xgd l1 200 (xgd l4 200 (xgd (h 124 l4) 200 (if h 87 (h 124 l4) < h 87 l1 then (some 1) else (some 0))))))))) else (if x1 < x2 then (some 1) else (some 0))))))
noncomputable def f_Md_tries_175  (h : xH) : Option xH :=
  some h
noncomputable def f_Md_tries_169 (l1 : Int) (l2 : Int) (l3 : Int) (h : xH) : Option ((Int × xH) ⊕ xH) :=
  xlet (w32 (l3 + 1)) (fun x1 => some (Sum.inl (x1, h)))
noncomputable def f_Md_tries_143 (l1 : Int) (l2 : Int) (l3 : Int) (l4 : Int) (l5 : Int) (l6 : Int) (h : xH) : Option ((Int × xH) ⊕ xH) :=
  xgd l6 200 (xlet (xup h 124 l6 l3) (fun h1 => xgd l6 200 (xlet (xup h1 125 l6 l4) (fun h2 => xgd l6 200 (xlet (xup h2 126 l6 l5) (fun h3 => f_Md_tries_169 l1 l2 l3 h3))))))
noncomputable def f_Md_tries_s68 (l1 : Int) (l2 : Int) (l3 : Int) (l4 : Int) (l5 : Int) (l6 : Int) (h : xH) : Option ((Int × xH) ⊕ (Int × xH)) :=
  if 0 < l6 then (xc1 (f_Md_isAhead l3 l4 l5 (w32 (l6 - 1)) h) (fun r1 => if r1 = 0 then (some (Sum.inr (l6, h))) else (xgd (w32 (l6 - 1)) 200 (xgd l6 200 (xlet (xup h 124 l6 (h 124 (w32 (l6 - 1)))) (fun h2 => xgd (w32 (l6 - 1)) 200 (xgd l6 200 (xlet (xup h2 125 l6 (h2 125 (w32 (l6 - 1)))) (fun h3 => xgd (w32 (l6 - 1)) 200 (xgd l6 200 (xlet (xup h3 126 l6 (h3 126 (w32 (l6 - 1)))) (fun h4 => xlet (w32 (l6 + (-1))) (fun x5 => some (Sum.inl (x5, h4))))))))))))))) else (some (Sum.inr (l6, h)))
noncomputable def f_Md_tries_68 (l1 : Int) (l2 : Int) (l3 : Int) (l4 : Int) (l5 : Int) (l6 : Int) (h : xH) : Option ((Int × xH) ⊕ xH) :=
  xc1 (xloop (fun s : (Int × xH) => f_Md_tries_s68 l1 l2 l3 l4 l5 s.1 s.2) (l6, h)) (fun b => f_Md_tries_143 l1 l2 l3 l4 l5 b.1 b.2)
noncomputable def f_Md_tries_32 (l1 : Int) (l2 : Int) (l3 : Int) (s0 : Int) (h : xH) : Option ((Int × xH) ⊕ xH) :=
  if l1 < s0 then (f_Md_tries_169 l1 l2 l3 h) else (xgd l3 200 (xc1 (f_Md_share (h 87 l3) h) (fun r1 => xlet (xup h 81 57 (w32 ((h 81 57) + 1))) (fun h2 => xlet (h 81 57) (fun x3 => f_Md_tries_68 l1 l2 l3 s0 r1 x3 h2)))))
noncomputable def f_Md_tries_s7 (l1 : Int) (l2 : Int) (l3 : Int) (h : xH) : Option ((Int × xH) ⊕ xH) :=
  if l3 < h 81 5 then (if l2 = 0 then (xc2 (f_Md_distanceTo l3 h) (fun r1 h2 => f_Md_tries_32 l1 l2 l3 r1 h2)) else (xc2 (f_Md_beginningTo l3 h) (fun r3 h4 => f_Md_tries_32 l1 l2 l3 r3 h4))) else (some (Sum.inr h))
noncomputable def f_Md_tries_7 (l1 : Int) (l2 : Int) (l3 : Int) (h : xH) : Option xH :=
  xc1 (xloop (fun s : (Int × xH) => f_Md_tries_s7 l1 l2 s.1 s.2) (l3, h)) (fun b => f_Md_tries_175 b)
noncomputable def f_Md_tries (l1 : Int) (l2 : Int) (h : xH) : Option xH :=
  xlet (xup h 81 57 0) (fun h1 => f_Md_tries_7 l1 l2 0 h1)
noncomputable def f_Md_keeps_64  (h : xH) : Option (Int × xH) :=
  some (h 81 53, h)
noncomputable def f_Md_keeps_s14 (l2 : Int) (h : xH) : Option ((Int × xH) ⊕ xH) :=
  if l2 < h 81 53 then (xgd l2 200 (xgd l2 200 (xlet (xup h 121 l2 (h 124 l2)) (fun h1 => xgd l2 200 (xgd l2 200 (xlet (xup h1 122 l2 (h1 125 l2)) (fun h2 => xgd l2 200 (xgd l2 200 (xlet (xup h2 123 l2 (h2 126 l2)) (fun h3 => xlet (w32 (l2 + 1)) (fun x4 => some (Sum.inl (x4, h3))))))))))))) else (some (Sum.inr h))
noncomputable def f_Md_keeps_14 (l2 : Int) (h : xH) : Option (Int × xH) :=
  xc1 (xloop (fun s : (Int × xH) => f_Md_keeps_s14 s.1 s.2) (l2, h)) (fun b => f_Md_keeps_64 b)
noncomputable def f_Md_keeps (l1 : Int) (h : xH) : Option (Int × xH) :=
  xc1 (f_Md_min l1 (h 81 57) h) (fun r1 => xlet (xup h 81 53 r1) (fun h2 => f_Md_keeps_14 0 h2))
noncomputable def f_Md_near (l1 : Int) (h : xH) : Option (Int × xH) :=
  xc2 (f_Md_readsOne h) (fun r1 h2 => if r1 = 0 then (some ((-2), h2)) else (xc1 (f_Md_in l1 0 99999 h2) (fun r3 => if r3 = 0 then (some ((-2), h2)) else (xc1 (f_Md_takeB 0 h2) (fun h4 => xc1 (f_Md_walk l1 h4) (fun h5 => xc1 (f_Md_tries l1 0 h5) (fun h6 => xc2 (f_Md_keeps 200 h6) (fun r7 h8 => some (r7, h8)))))))))
noncomputable def f_Md_nearest (l1 : Int) (h : xH) : Option (Int × xH) :=
  xc2 (f_Md_readsOne h) (fun r1 h2 => if r1 = 0 then (some ((-2), h2)) else (xc1 (f_Md_in l1 1 200 h2) (fun r3 => if r3 = 0 then (some ((-2), h2)) else (xc1 (f_Md_takeB 0 h2) (fun h4 => xc1 (f_Md_tries 2000000 0 h4) (fun h5 => xc2 (f_Md_keeps l1 h5) (fun r6 h7 => some (r6, h7))))))))
noncomputable def f_Md_complete (l1 : Int) (h : xH) : Option (Int × xH) :=
  xc2 (f_Md_readsOne h) (fun r1 h2 => if r1 = 0 then (some ((-2), h2)) else (xc1 (f_Md_in l1 0 99999 h2) (fun r3 => if r3 = 0 then (some ((-2), h2)) else (xc1 (f_Md_takeB 0 h2) (fun h4 => xc1 (f_Md_walk l1 h4) (fun h5 => xc1 (f_Md_tries l1 1 h5) (fun h6 => xc2 (f_Md_keeps 200 h6) (fun r7 h8 => some (r7, h8)))))))))
noncomputable def f_Md_found (l1 : Int) (l2 : Int) (h : xH) : Option Int :=
  xc1 (f_Md_in l2 0 2 h) (fun r1 => if r1 = 0 then (some (-2)) else (xc1 (f_Md_in l1 0 (w32 ((h 81 53) - 1)) h) (fun r2 => if r2 = 0 then (some (-1)) else (if l2 = 0 then (xgd l1 200 (some (h 121 l1))) else (if l2 = 1 then (xgd l1 200 (some (h 122 l1))) else (xgd l1 200 (some (h 123 l1))))))))
noncomputable def f_Md_node (l1 : Int) (l2 : Int) (h : xH) : Option Int :=
  if l2 < 0 then (some (-2)) else (xc1 (f_Md_in l1 0 (w32 ((h 81 39) - 1)) h) (fun r1 => if r1 = 0 then (some (-1)) else (if l2 = 0 then (xgd l1 2401 (some (h 110 l1))) else (if l2 = 1 then (xgd l1 2401 (some (h 111 l1))) else (if l2 = 2 then (xgd l1 2401 (some (h 112 l1))) else (if l2 = 3 then (xgd l1 2401 (some (h 113 l1))) else (if l2 = 4 then (xgd l1 2401 (some (h 114 l1))) else (if h 81 47 < w32 (l2 - 5) then (some (-1)) else (xgd (w32 ((w32 ((w32 (13 * l1)) + l2)) - 5)) 31213 (some (h 115 (w32 ((w32 ((w32 (13 * l1)) + l2)) - 5)))))))))))))
noncomputable def f_Md_pair_111  (h : xH) : Option (Int × xH) :=
  xlet (xup h 81 61 (w32 ((h 81 61) + 1))) (fun h1 => some (h 81 61, h1))
noncomputable def f_Md_pair_s56 (l1 : Int) (h : xH) : Option ((Int × xH) ⊕ xH) :=
  if l1 < 12 then (xgd l1 144 (xgd (w32 ((w32 (12 * (h 81 61))) + l1)) 480 (xlet (xup h 128 (w32 ((w32 (12 * (h 81 61))) + l1)) (h 84 l1)) (fun h1 => xgd (w32 (12 + l1)) 144 (xgd (w32 ((w32 (12 * (h1 81 61))) + l1)) 480 (xlet (xup h1 130 (w32 ((w32 (12 * (h1 81 61))) + l1)) (h1 84 (w32 (12 + l1)))) (fun h2 => xlet (w32 (l1 + 1)) (fun x3 => some (Sum.inl (x3, h2)))))))))) else (some (Sum.inr h))
noncomputable def f_Md_pair_56 (l1 : Int) (h : xH) : Option (Int × xH) :=
  xc1 (xloop (fun s : (Int × xH) => f_Md_pair_s56 s.1 s.2) (l1, h)) (fun b => f_Md_pair_111 b)
noncomputable def f_Md_pair  (h : xH) : Option (Int × xH) :=
  xc2 (f_Md_readsTwo 12 h) (fun r1 h2 => if r1 = 0 then (some ((-2), h2)) else (if h2 81 61 = 40 then (some ((-4), h2)) else (xgd 0 12 (xgd (h2 81 61) 40 (xlet (xup h2 127 (h2 81 61) (h2 83 0)) (fun h3 => xgd 1 12 (xgd (h3 81 61) 40 (xlet (xup h3 129 (h3 81 61) (h3 83 1)) (fun h4 => f_Md_pair_56 0 h4)))))))))
noncomputable def f_Md_takePair_68  (h : xH) : Option xH :=
  some h
noncomputable def f_Md_takePair_s22 (l1 : Int) (l2 : Int) (h : xH) : Option ((Int × xH) ⊕ xH) :=
  if l2 < 12 then (xgd (w32 ((w32 (12 * l1)) + l2)) 480 (xgd l2 12 (xlet (xup h 97 l2 (h 128 (w32 ((w32 (12 * l1)) + l2)))) (fun h1 => xgd (w32 ((w32 (12 * l1)) + l2)) 480 (xgd l2 12 (xlet (xup h1 98 l2 (h1 130 (w32 ((w32 (12 * l1)) + l2)))) (fun h2 => xlet (w32 (l2 + 1)) (fun x3 => some (Sum.inl (x3, h2)))))))))) else (some (Sum.inr h))
noncomputable def f_Md_takePair_22 (l1 : Int) (l2 : Int) (h : xH) : Option xH :=
  xc1 (xloop (fun s : (Int × xH) => f_Md_takePair_s22 l1 s.1 s.2) (l2, h)) (fun b => f_Md_takePair_68 b)
noncomputable def f_Md_takePair (l1 : Int) (h : xH) : Option xH :=
  xgd l1 40 (xlet (xup h 81 22 (h 127 l1)) (fun h1 => xgd l1 40 (xlet (xup h1 81 23 (h1 129 l1)) (fun h2 => f_Md_takePair_22 l1 0 h2))))
noncomputable def f_Md_learn_346 (l1 : Int) (h : xH) : Option (Int × xH) :=
  some (l1, h)
noncomputable def f_Md_learn_342 (l1 : Int) (s0 : Int) (h : xH) : Option ((Int × Int × xH) ⊕ (Int × xH)) :=
  some (Sum.inl (l1, s0, h))
noncomputable def f_Md_learn_341 (l1 : Int) (h : xH) : Option ((Int × Int × xH) ⊕ (Int × xH)) :=
  f_Md_learn_342 l1 0 h
noncomputable def f_Md_learn_322 (l1 : Int) (l3 : Int) (l4 : Int) (h : xH) : Option ((Int × Int × xH) ⊕ (Int × xH)) :=
  if 0 < l4 then (if l3 = 0 then (if l1 < 20 then (f_Md_learn_342 l1 1 h) else (f_Md_learn_341 l1 h)) else (f_Md_learn_341 l1 h)) else (f_Md_learn_341 l1 h)
noncomputable def f_Md_learn_s284 (l1 : Int) (l3 : Int) (l4 : Int) (l5 : Int) (h : xH) : Option ((Int × xH) ⊕ xH) :=
  if 6 < l5 then (some (Sum.inr h)) else (xgd l5 7 (xgp (l4 ≠ 0) (xgd l5 7 (xlet (xup h 88 l5 (w32 (200 - (xdiv (w32 (180 * (h 133 l5))) l4)))) (fun h1 => xlet (w32 (l5 + 1)) (fun x2 => some (Sum.inl (x2, h1))))))))
noncomputable def f_Md_learn_284 (l1 : Int) (l3 : Int) (l4 : Int) (l5 : Int) (h : xH) : Option ((Int × Int × xH) ⊕ (Int × xH)) :=
  xc1 (xloop (fun s : (Int × xH) => f_Md_learn_s284 l1 l3 l4 s.1 s.2) (l5, h)) (fun b => f_Md_learn_322 l1 l3 l4 b)
noncomputable def f_Md_learn_276 (l1 : Int) (l3 : Int) (l4 : Int) (h : xH) : Option ((Int × Int × xH) ⊕ (Int × xH)) :=
  if 0 < l4 then (f_Md_learn_284 l1 l3 l4 1 h) else (f_Md_learn_322 l1 l3 l4 h)
noncomputable def f_Md_learn_s251 (l1 : Int) (l3 : Int) (l4 : Int) (l5 : Int) (h : xH) : Option ((Int × Int) ⊕ Int) :=
  if 6 < l5 then (some (Sum.inr l4)) else (xgd l5 7 (xlet (w32 (l4 + (h 133 l5))) (fun x1 => xlet (w32 (l5 + 1)) (fun x2 => some (Sum.inl (x1, x2))))))
noncomputable def f_Md_learn_251 (l1 : Int) (l3 : Int) (l4 : Int) (l5 : Int) (h : xH) : Option ((Int × Int × xH) ⊕ (Int × xH)) :=
  xc1 (xloop (fun s : (Int × Int) => f_Md_learn_s251 l1 l3 s.1 s.2 h) (l4, l5)) (fun b => f_Md_learn_276 l1 l3 b h)
noncomputable def f_Md_learn_245 (l1 : Int) (l3 : Int) (h : xH) : Option ((Int × Int × xH) ⊕ (Int × xH)) :=
  f_Md_learn_251 l1 l3 0 1 h
noncomputable def f_Md_learn_228 (l1 : Int) (l3 : Int) (l4 : Int) (h : xH) : Option ((Int × Int × xH) ⊕ (Int × xH)) :=
  xgd l4 40 (xlet (xup h 131 l4 (h 81 27)) (fun h1 => xlet (w32 (l4 + 1)) (fun x2 => some (Sum.inl (l3, x2, h1)))))
noncomputable def f_Md_learn_207 (l1 : Int) (l3 : Int) (l4 : Int) (l5 : Int) (l6 : Int) (h : xH) : Option ((Int × Int × xH) ⊕ (Int × xH)) :=
  xgd (w32 ((w32 (24 * l4)) + l5)) 960 (xlet (xup h 132 (w32 ((w32 (24 * l4)) + l5)) l6) (fun h1 => xlet (w32 (l5 + 1)) (fun x2 => some (Sum.inl (l3, x2, h1)))))
noncomputable def f_Md_learn_170 (l1 : Int) (l3 : Int) (l4 : Int) (l5 : Int) (l6 : Int) (h : xH) : Option ((Int × Int × xH) ⊕ (Int × xH)) :=
  if 1 < l1 then (xgd l4 40 (if l5 < h 131 l4 then (xgd (w32 ((w32 (24 * l4)) + l5)) 960 (if h 132 (w32 ((w32 (24 * l4)) + l5)) = l6 then (f_Md_learn_207 l1 l3 l4 l5 l6 h) else (f_Md_learn_207 l1 0 l4 l5 l6 h))) else (f_Md_learn_207 l1 l3 l4 l5 l6 h))) else (f_Md_learn_207 l1 l3 l4 l5 l6 h)
noncomputable def f_Md_learn_146 (l1 : Int) (l3 : Int) (l4 : Int) (l5 : Int) (s0 : Int) (h : xH) : Option ((Int × Int × xH) ⊕ (Int × xH)) :=
  xc1 (f_Md_in s0 1 6 h) (fun r1 => if r1 = 0 then (f_Md_learn_170 l1 l3 l4 l5 s0 h) else (xgd s0 7 (xgd s0 7 (xlet (xup h 133 s0 (w32 ((h 133 s0) + 1))) (fun h2 => f_Md_learn_170 l1 l3 l4 l5 s0 h2)))))
noncomputable def f_Md_learn_s105 (l1 : Int) (l3 : Int) (l4 : Int) (l5 : Int) (h : xH) : Option ((Int × Int × xH) ⊕ (Int × xH)) :=
  if l5 < h 81 27 then (xgd l5 24 (if h 100 l5 = 7 then (xgd l5 24 (f_Md_learn_146 l1 l3 l4 l5 (w32 (7 + (h 104 l5))) h)) else (xgd l5 24 (f_Md_learn_146 l1 l3 l4 l5 (h 100 l5) h)))) else (some (Sum.inr (l3, h)))
noncomputable def f_Md_learn_105 (l1 : Int) (l3 : Int) (l4 : Int) (l5 : Int) (h : xH) : Option ((Int × Int × xH) ⊕ (Int × xH)) :=
  xc1 (xloop (fun s : (Int × Int × xH) => f_Md_learn_s105 l1 s.1 l4 s.2.1 s.2.2) (l3, l5, h)) (fun b => f_Md_learn_228 l1 b.1 l4 b.2)
noncomputable def f_Md_learn_102 (l1 : Int) (l3 : Int) (l4 : Int) (h : xH) : Option ((Int × Int × xH) ⊕ (Int × xH)) :=
  f_Md_learn_105 l1 l3 l4 0 h
noncomputable def f_Md_learn_s58 (l1 : Int) (l3 : Int) (l4 : Int) (h : xH) : Option ((Int × Int × xH) ⊕ (Int × xH)) :=
  if l4 < h 81 61 then (xc1 (f_Md_takePair l4 h) (fun h1 => xc1 (f_Md_sums h1) (fun h2 => xc1 (f_Md_ways h2) (fun h3 => if 1 < l1 then (xgd l4 40 (if h3 131 l4 = h3 81 27 then (f_Md_learn_102 l1 l3 l4 h3) else (f_Md_learn_102 l1 0 l4 h3))) else (f_Md_learn_102 l1 l3 l4 h3))))) else (some (Sum.inr (l3, h)))
noncomputable def f_Md_learn_58 (l1 : Int) (l3 : Int) (l4 : Int) (h : xH) : Option ((Int × Int × xH) ⊕ (Int × xH)) :=
  xc1 (xloop (fun s : (Int × Int × xH) => f_Md_learn_s58 l1 s.1 s.2.1 s.2.2) (l3, l4, h)) (fun b => f_Md_learn_245 l1 b.1 b.2)
noncomputable def f_Md_learn_55 (l1 : Int) (l3 : Int) (h : xH) : Option ((Int × Int × xH) ⊕ (Int × xH)) :=
  f_Md_learn_58 l1 l3 0 h
noncomputable def f_Md_learn_s34 (l1 : Int) (l3 : Int) (l4 : Int) (h : xH) : Option ((Int × xH) ⊕ xH) :=
  if l4 < 7 then (xgd l4 7 (xlet (xup h 133 l4 0) (fun h1 => xlet (w32 (l4 + 1)) (fun x2 => some (Sum.inl (x2, h1)))))) else (some (Sum.inr h))
noncomputable def f_Md_learn_34 (l1 : Int) (l3 : Int) (l4 : Int) (h : xH) : Option ((Int × Int × xH) ⊕ (Int × xH)) :=
  xc1 (xloop (fun s : (Int × xH) => f_Md_learn_s34 l1 l3 s.1 s.2) (l4, h)) (fun b => f_Md_learn_55 l1 l3 b)
noncomputable def f_Md_learn_30 (l1 : Int) (s0 : Int) (h : xH) : Option ((Int × Int × xH) ⊕ (Int × xH)) :=
  f_Md_learn_34 l1 s0 0 h
noncomputable def f_Md_learn_s13 (l1 : Int) (l2 : Int) (h : xH) : Option ((Int × Int × xH) ⊕ (Int × xH)) :=
  if l2 = 0 then (some (Sum.inr (l1, h))) else (xlet (w32 (l1 + 1)) (fun x1 => if 1 < x1 then (f_Md_learn_30 x1 1 h) else (f_Md_learn_30 x1 0 h)))
noncomputable def f_Md_learn_13 (l1 : Int) (l2 : Int) (h : xH) : Option (Int × xH) :=
  xc1 (xloop (fun s : (Int × Int × xH) => f_Md_learn_s13 s.1 s.2.1 s.2.2) (l1, l2, h)) (fun b => f_Md_learn_346 b.1 b.2)
noncomputable def f_Md_learn  (h : xH) : Option (Int × xH) :=
  if h 81 61 = 0 then (some (0, h)) else (f_Md_learn_13 0 1 h)
noncomputable def f_Md_spread_36 (l1 : Int) (h : xH) : Option (Int × xH) :=
  some (l1, h)
noncomputable def f_Md_spread_s4 (l1 : Int) (l2 : Int) (h : xH) : Option ((Int × Int × xH) ⊕ (Int × xH)) :=
  if l2 < h 81 61 then (xc1 (f_Md_takePair l2 h) (fun h1 => xc1 (f_Md_sums h1) (fun h2 => xgd 0 169 (xlet (w32 (l1 + (h2 99 0))) (fun x3 => xlet (w32 (l2 + 1)) (fun x4 => some (Sum.inl (x3, x4, h2)))))))) else (some (Sum.inr (l1, h)))
noncomputable def f_Md_spread_4 (l1 : Int) (l2 : Int) (h : xH) : Option (Int × xH) :=
  xc1 (xloop (fun s : (Int × Int × xH) => f_Md_spread_s4 s.1 s.2.1 s.2.2) (l1, l2, h)) (fun b => f_Md_spread_36 b.1 b.2)
noncomputable def f_Md_spread  (h : xH) : Option (Int × xH) :=
  f_Md_spread_4 0 0 h
noncomputable def f_Md_together_105 (l2 : Int) (h : xH) : Option (Int × xH) :=
  xc1 (f_Md_wordOf l2 145 0 h) (fun r1 => some (r1, h))
noncomputable def f_Md_together_s61 (l1 : Int) (l2 : Int) (l3 : Int) (h : xH) : Option ((Int × xH) ⊕ xH) :=
  xgd (w32 (l1 + 1)) 12 (if l3 < h 83 (w32 (l1 + 1)) then (xgd l1 12 (xgd (w32 ((w32 (12 * (w32 (l1 + 1)))) + l3)) 144 (xgd (w32 ((h 83 l1) + l3)) 24 (xlet (xup h 145 (w32 ((h 83 l1) + l3)) (h 84 (w32 ((w32 (12 * (w32 (l1 + 1)))) + l3)))) (fun h1 => xlet (w32 (l3 + 1)) (fun x2 => some (Sum.inl (x2, h1)))))))) else (some (Sum.inr h)))
noncomputable def f_Md_together_61 (l1 : Int) (l2 : Int) (l3 : Int) (h : xH) : Option (Int × xH) :=
  xc1 (xloop (fun s : (Int × xH) => f_Md_together_s61 l1 l2 s.1 s.2) (l3, h)) (fun b => f_Md_together_105 l2 b)
noncomputable def f_Md_together_59 (l1 : Int) (l2 : Int) (h : xH) : Option (Int × xH) :=
  f_Md_together_61 l1 l2 0 h
noncomputable def f_Md_together_s26 (l1 : Int) (l2 : Int) (l3 : Int) (h : xH) : Option ((Int × xH) ⊕ xH) :=
  xgd l1 12 (if l3 < h 83 l1 then (xgd (w32 ((w32 (12 * l1)) + l3)) 144 (xgd l3 24 (xlet (xup h 145 l3 (h 84 (w32 ((w32 (12 * l1)) + l3)))) (fun h1 => xlet (w32 (l3 + 1)) (fun x2 => some (Sum.inl (x2, h1))))))) else (some (Sum.inr h)))
noncomputable def f_Md_together_26 (l1 : Int) (l2 : Int) (l3 : Int) (h : xH) : Option (Int × xH) :=
  xc1 (xloop (fun s : (Int × xH) => f_Md_together_s26 l1 l2 s.1 s.2) (l3, h)) (fun b => f_Md_together_59 l1 l2 b)
noncomputable def f_Md_together (l1 : Int) (h : xH) : Option (Int × xH) :=
  xgd l1 12 (xgd (w32 (l1 + 1)) 12 (xlet (w32 ((h 83 l1) + (h 83 (w32 (l1 + 1))))) (fun x1 => if 12 < x1 then (some ((-1), h)) else (f_Md_together_26 l1 x1 0 h))))
noncomputable def f_Md_isWord (l1 : Int) (h : xH) : Option Int :=
  xgd l1 12 (xc1 (f_Md_wordOf (h 83 l1) 84 (w32 (12 * l1)) h) (fun r1 => some r1))
noncomputable def f_Md_parting_63  (h : xH) : Option Int :=
  some (-1)
noncomputable def f_Md_parting_57 (l1 : Int) (l2 : Int) (h : xH) : Option (Int ⊕ (Unit ⊕ Int)) :=
  xlet (w32 (l2 + 1)) (fun x1 => some (Sum.inl x1))
noncomputable def f_Md_parting_s2 (l1 : Int) (l2 : Int) (h : xH) : Option (Int ⊕ (Unit ⊕ Int)) :=
  xgd l1 12 (if l2 < h 83 l1 then (xc1 (f_Md_wordOf l2 84 (w32 (12 * l1)) h) (fun r1 => if r1 = (-1) then (f_Md_parting_57 l1 l2 h) else (xgd l1 12 (xc1 (f_Md_wordOf (w32 ((h 83 l1) - l2)) 84 (w32 ((w32 (12 * l1)) + l2)) h) (fun r2 => if r2 = (-1) then (f_Md_parting_57 l1 l2 h) else (some (Sum.inr (Sum.inr l2)))))))) else (some (Sum.inr (Sum.inl ()))))
noncomputable def f_Md_parting_2 (l1 : Int) (l2 : Int) (h : xH) : Option Int :=
  xc1 (xloop (fun s : Int => f_Md_parting_s2 l1 s h) l2) (fun q => xsw q (fun b => f_Md_parting_63 h) (fun r => some r))
noncomputable def f_Md_parting (l1 : Int) (h : xH) : Option Int :=
  f_Md_parting_2 l1 1 h
noncomputable def f_Md_partAt_115 (l2 : Int) (h : xH) : Option (Int × xH) :=
  xc2 (f_Md_together l2 h) (fun r1 h2 => if r1 = (-1) then (some (1000000, h2)) else (some (h2 81 13, h2)))
noncomputable def f_Md_partAt_14 (l1 : Int) (l2 : Int) (l3 : Int) (s0 : Int) (h : xH) : Option (Int × xH) :=
  if l1 = 0 then (if s0 = 0 then (some (1000000, h)) else (some (0, h))) else (if l1 = 1 then (if s0 = 0 then (xgd l2 12 (if h 140 l2 = (-1) then (some (1000000, h)) else (xgd l2 12 (some (h 141 l2, h))))) else (some (1000000, h))) else (if l1 = 2 then (if w32 (l2 + 1) < h 81 2 then (if s0 = 0 then (f_Md_partAt_115 l2 h) else (xc1 (f_Md_isWord (w32 (l2 + 1)) h) (fun r1 => if r1 = (-1) then (f_Md_partAt_115 l2 h) else (some (1000000, h))))) else (some (1000000, h))) else (if l1 = 3 then (if s0 = 0 then (xc1 (f_Md_parting l2 h) (fun r2 => if r2 = (-1) then (some (1000000, h)) else (some (h 81 14, h)))) else (some (1000000, h))) else (if s0 = 0 then (some (w32 (l3 + 1), h)) else (some (1000000, h))))))
noncomputable def f_Md_partAt (l1 : Int) (l2 : Int) (l3 : Int) (h : xH) : Option (Int × xH) :=
  xc1 (f_Md_isWord l2 h) (fun r1 => if r1 = (-1) then (f_Md_partAt_14 l1 l2 l3 0 h) else (f_Md_partAt_14 l1 l2 l3 1 h))
noncomputable def f_Md_mend_510  (h : xH) : Option (Int × xH) :=
  some (h 81 69, h)
noncomputable def f_Md_mend_485 (l1 : Int) (l3 : Int) (h : xH) : Option ((Int × xH) ⊕ xH) :=
  xgd (h 81 69) 12 (xlet (w32 (l3 + (h 138 (h 81 69)))) (fun x1 => xlet (xup h 81 69 (w32 ((h 81 69) + 1))) (fun h2 => some (Sum.inl (x1, h2)))))
noncomputable def f_Md_mend_445 (l1 : Int) (l3 : Int) (l4 : Int) (l6 : Int) (s1 : Int) (s2 : Int) (h : xH) : Option ((Int × xH) ⊕ xH) :=
  xgd s1 12 (xlet (xup h 136 s1 s2) (fun h1 => if l4 = 3 then (xgd l3 12 (xc1 (f_Md_wordOf (w32 ((h1 83 l3) - l6)) 84 (w32 ((w32 (12 * l3)) + l6)) h1) (fun r2 => xgd (h1 81 69) 12 (xlet (xup h1 137 (h1 81 69) r2) (fun h3 => f_Md_mend_485 l1 l3 h3))))) else (f_Md_mend_485 l1 l3 h1)))
noncomputable def f_Md_mend_369 (l1 : Int) (l3 : Int) (l4 : Int) (s0 : Int) (h : xH) : Option ((Int × xH) ⊕ xH) :=
  if l4 = 0 then (xc1 (f_Md_isWord l3 h) (fun r1 => f_Md_mend_445 l1 l3 l4 s0 (h 81 69) r1 h)) else (if l4 = 1 then (xgd l3 12 (f_Md_mend_445 l1 l3 l4 s0 (h 81 69) (h 140 l3) h)) else (if l4 = 2 then (xc2 (f_Md_together l3 h) (fun r2 h3 => f_Md_mend_445 l1 l3 l4 s0 (h 81 69) r2 h3)) else (if l4 = 3 then (xc1 (f_Md_wordOf s0 84 (w32 (12 * l3)) h) (fun r4 => f_Md_mend_445 l1 l3 l4 s0 (h 81 69) r4 h)) else (f_Md_mend_445 l1 l3 l4 s0 (h 81 69) (-1) h))))
noncomputable def f_Md_mend_353 (l1 : Int) (l3 : Int) (l4 : Int) (s1 : Int) (s2 : Int) (h : xH) : Option ((Int × xH) ⊕ xH) :=
  xgd s1 12 (xlet (xup h 138 s1 s2) (fun h1 => if l4 = 3 then (xc1 (f_Md_parting l3 h1) (fun r2 => f_Md_mend_369 l1 l3 l4 r2 h1)) else (f_Md_mend_369 l1 l3 l4 0 h1)))
noncomputable def f_Md_mend_302 (l1 : Int) (l3 : Int) (l4 : Int) (l5 : Int) (h : xH) : Option ((Int × xH) ⊕ xH) :=
  xgd (h 81 69) 12 (xlet (xup h 134 (h 81 69) l4) (fun h1 => xgd (h1 81 69) 12 (xlet (xup h1 135 (h1 81 69) l5) (fun h2 => xgd (h2 81 69) 12 (xlet (xup h2 137 (h2 81 69) (-1)) (fun h3 => if l4 = 2 then (f_Md_mend_353 l1 l3 l4 (h3 81 69) 2 h3) else (f_Md_mend_353 l1 l3 l4 (h3 81 69) 1 h3)))))))
noncomputable def f_Md_mend_286 (l1 : Int) (l3 : Int) (l4 : Int) (h : xH) : Option ((Int × Int × xH) ⊕ (Int × Int × xH)) :=
  xlet (w32 (l4 + 1)) (fun x1 => xc2 (f_Md_partAt x1 l3 l1 h) (fun r2 h3 => some (Sum.inl (x1, r2, h3))))
noncomputable def f_Md_mend_274 (l1 : Int) (l3 : Int) (l4 : Int) (l5 : Int) (s0 : Int) (s2 : Int) (s3 : Int) (h : xH) : Option ((Int × Int × xH) ⊕ (Int × Int × xH)) :=
  xgd (w32 (s2 + s3)) 13 (xgd l3 13 (if w32 (s0 + (h 139 (w32 (s2 + s3)))) = h 139 l3 then (some (Sum.inr (l4, l5, h))) else (f_Md_mend_286 l1 l3 l4 h)))
noncomputable def f_Md_mend_s248 (l1 : Int) (l3 : Int) (l4 : Int) (l5 : Int) (h : xH) : Option ((Int × Int × xH) ⊕ (Int × Int × xH)) :=
  if l5 < 1000000 then (if l4 = 2 then (f_Md_mend_274 l1 l3 l4 l5 l5 l3 2 h) else (f_Md_mend_274 l1 l3 l4 l5 l5 l3 1 h)) else (f_Md_mend_286 l1 l3 l4 h)
noncomputable def f_Md_mend_248 (l1 : Int) (l3 : Int) (l4 : Int) (l5 : Int) (h : xH) : Option ((Int × xH) ⊕ xH) :=
  xc1 (xloop (fun s : (Int × Int × xH) => f_Md_mend_s248 l1 l3 s.1 s.2.1 s.2.2) (l4, l5, h)) (fun b => f_Md_mend_302 l1 l3 b.1 b.2.1 b.2.2)
noncomputable def f_Md_mend_s228 (l1 : Int) (l3 : Int) (h : xH) : Option ((Int × xH) ⊕ xH) :=
  if l3 < h 81 2 then (xc2 (f_Md_partAt 0 l3 l1 h) (fun r1 h2 => f_Md_mend_248 l1 l3 0 r1 h2)) else (some (Sum.inr h))
noncomputable def f_Md_mend_228 (l1 : Int) (l3 : Int) (h : xH) : Option (Int × xH) :=
  xc1 (xloop (fun s : (Int × xH) => f_Md_mend_s228 l1 s.1 s.2) (l3, h)) (fun b => f_Md_mend_510 b)
noncomputable def f_Md_mend_211 (l1 : Int) (h : xH) : Option (Int × xH) :=
  xlet (xup h 81 69 0) (fun h1 => xgd 0 13 (xlet (xup h1 81 70 (h1 139 0)) (fun h2 => f_Md_mend_228 l1 0 h2)))
noncomputable def f_Md_mend_205 (l1 : Int) (l3 : Int) (h : xH) : Option ((Int × xH) ⊕ xH) :=
  xlet (w32 (l3 + (-1))) (fun x1 => some (Sum.inl (x1, h)))
noncomputable def f_Md_mend_199 (l1 : Int) (l3 : Int) (l4 : Int) (h : xH) : Option ((Int × xH) ⊕ xH) :=
  xlet (w32 (l4 + 1)) (fun x1 => some (Sum.inl (x1, h)))
noncomputable def f_Md_mend_192 (l1 : Int) (l3 : Int) (l4 : Int) (s1 : Int) (s2 : Int) (s3 : Int) (s5 : Int) (s6 : Int) (h : xH) : Option ((Int × xH) ⊕ xH) :=
  xgd (w32 (s5 + s6)) 13 (xc1 (f_Md_min s2 (w32 (s3 + (h 139 (w32 (s5 + s6))))) h) (fun r1 => xgd s1 13 (xlet (xup h 139 s1 r1) (fun h2 => f_Md_mend_199 l1 l3 l4 h2))))
noncomputable def f_Md_mend_s139 (l1 : Int) (l3 : Int) (l4 : Int) (h : xH) : Option ((Int × xH) ⊕ xH) :=
  if l4 < 5 then (xc2 (f_Md_partAt l4 l3 l1 h) (fun r1 h2 => if r1 < 1000000 then (xgd l3 13 (if l4 = 2 then (f_Md_mend_192 l1 l3 l4 l3 (h2 139 l3) r1 l3 2 h2) else (f_Md_mend_192 l1 l3 l4 l3 (h2 139 l3) r1 l3 1 h2))) else (f_Md_mend_199 l1 l3 l4 h2))) else (some (Sum.inr h))
noncomputable def f_Md_mend_139 (l1 : Int) (l3 : Int) (l4 : Int) (h : xH) : Option ((Int × xH) ⊕ xH) :=
  xc1 (xloop (fun s : (Int × xH) => f_Md_mend_s139 l1 l3 s.1 s.2) (l4, h)) (fun b => f_Md_mend_205 l1 l3 b)
noncomputable def f_Md_mend_s123 (l1 : Int) (l3 : Int) (h : xH) : Option ((Int × xH) ⊕ xH) :=
  if l3 < 0 then (some (Sum.inr h)) else (xgd l3 13 (xlet (xup h 139 l3 100000000) (fun h1 => f_Md_mend_139 l1 l3 0 h1)))
noncomputable def f_Md_mend_123 (l1 : Int) (l3 : Int) (h : xH) : Option (Int × xH) :=
  xc1 (xloop (fun s : (Int × xH) => f_Md_mend_s123 l1 s.1 s.2) (l3, h)) (fun b => f_Md_mend_211 l1 b)
noncomputable def f_Md_mend_106 (l1 : Int) (h : xH) : Option (Int × xH) :=
  xgd (h 81 2) 13 (xlet (xup h 139 (h 81 2) 0) (fun h1 => xlet (w32 ((h1 81 2) - 1)) (fun x2 => f_Md_mend_123 l1 x2 h1)))
noncomputable def f_Md_mend_100 (l1 : Int) (l3 : Int) (h : xH) : Option ((Int × xH) ⊕ xH) :=
  xlet (w32 (l3 + 1)) (fun x1 => some (Sum.inl (x1, h)))
noncomputable def f_Md_mend_s31 (l1 : Int) (l3 : Int) (h : xH) : Option ((Int × xH) ⊕ xH) :=
  if l3 < h 81 2 then (xgd l3 12 (xlet (xup h 140 l3 (-1)) (fun h1 => xc1 (f_Md_isWord l3 h1) (fun r2 => if r2 = (-1) then (xc1 (f_Md_takeB l3 h1) (fun h3 => xc1 (f_Md_tries l1 0 h3) (fun h4 => if 0 < h4 81 57 then (xgd 0 200 (xgd l3 12 (xlet (xup h4 140 l3 (h4 124 0)) (fun h5 => xgd 0 200 (xgd l3 12 (xlet (xup h5 141 l3 (h5 125 0)) (fun h6 => f_Md_mend_100 l1 l3 h6))))))) else (f_Md_mend_100 l1 l3 h4)))) else (f_Md_mend_100 l1 l3 h1))))) else (some (Sum.inr h))
noncomputable def f_Md_mend_31 (l1 : Int) (l3 : Int) (h : xH) : Option (Int × xH) :=
  xc1 (xloop (fun s : (Int × xH) => f_Md_mend_s31 l1 s.1 s.2) (l3, h)) (fun b => f_Md_mend_106 l1 b)
noncomputable def f_Md_mend (l1 : Int) (h : xH) : Option (Int × xH) :=
  xc2 (f_Md_reads 32 12 12 h) (fun r1 h2 => if r1 = 0 then (some ((-2), h2)) else (xc1 (f_Md_in l1 0 99999 h2) (fun r3 => if r3 = 0 then (some ((-2), h2)) else (f_Md_mend_31 l1 0 h2))))
noncomputable def f_Md_part (l1 : Int) (l2 : Int) (h : xH) : Option Int :=
  xc1 (f_Md_in l2 0 4 h) (fun r1 => if r1 = 0 then (some (-2)) else (if h 81 69 = (-1) then (if l1 = (-1) then (if l2 = 1 then (some 0) else (some (-1))) else (some (-1))) else (if l1 = (-1) then (if l2 = 1 then (some (h 81 70)) else (some (-1))) else (xc1 (f_Md_in l1 0 (w32 ((h 81 69) - 1)) h) (fun r2 => if r2 = 0 then (some (-1)) else (if l2 = 0 then (xgd l1 12 (some (h 134 l1))) else (if l2 = 1 then (xgd l1 12 (some (h 135 l1))) else (if l2 = 2 then (xgd l1 12 (some (h 136 l1))) else (if l2 = 3 then (xgd l1 12 (some (h 137 l1))) else (xgd l1 12 (some (h 138 l1))))))))))))
noncomputable def f_Md_refused (l1 : Int) (h : xH) : Option (Int × xH) :=
  xlet (xup h 81 82 l1) (fun h1 => some ((-1), h1))
noncomputable def f_Md_done (l1 : Int) (h : xH) : Option (Int × xH) :=
  xlet (xup h 81 82 0) (fun h1 => some (l1, h1))
noncomputable def f_Md_put_361  (h : xH) : Option (Int × xH) :=
  xc2 (f_Md_done 1 h) (fun r1 h2 => some (r1, h2))
noncomputable def f_Md_put_358  (h : xH) : Option (Int × xH) :=
  f_Md_put_361 h
noncomputable def f_Md_put_s320 (l3 : Int) (l5 : Int) (l6 : Int) (h : xH) : Option ((Int × xH) ⊕ xH) :=
  xgd l3 200 (if l6 < h 85 l3 then (xgd (w32 ((w32 (12 * l3)) + l6)) 2400 (xgd (w32 (l5 + (h 86 (w32 ((w32 (12 * l3)) + l6))))) 208 (xlet (xup h 144 (w32 (l5 + (h 86 (w32 ((w32 (12 * l3)) + l6))))) 1) (fun h1 => xlet (w32 (l6 + 1)) (fun x2 => some (Sum.inl (x2, h1))))))) else (some (Sum.inr h)))
noncomputable def f_Md_put_320 (l3 : Int) (l5 : Int) (l6 : Int) (h : xH) : Option (Int × xH) :=
  xc1 (xloop (fun s : (Int × xH) => f_Md_put_s320 l3 l5 s.1 s.2) (l6, h)) (fun b => f_Md_put_358 b)
noncomputable def f_Md_put_317 (l3 : Int) (l5 : Int) (h : xH) : Option (Int × xH) :=
  f_Md_put_320 l3 l5 0 h
noncomputable def f_Md_put_s293 (l3 : Int) (l5 : Int) (l6 : Int) (h : xH) : Option ((Int × xH) ⊕ xH) :=
  if l6 < 26 then (xgd (w32 (l5 + l6)) 208 (xlet (xup h 144 (w32 (l5 + l6)) 0) (fun h1 => xlet (w32 (l6 + 1)) (fun x2 => some (Sum.inl (x2, h1)))))) else (some (Sum.inr h))
noncomputable def f_Md_put_293 (l3 : Int) (l5 : Int) (l6 : Int) (h : xH) : Option (Int × xH) :=
  xc1 (xloop (fun s : (Int × xH) => f_Md_put_s293 l3 l5 s.1 s.2) (l6, h)) (fun b => f_Md_put_317 l3 l5 b)
noncomputable def f_Md_put_279  (h : xH) : Option (Int × xH) :=
  f_Md_put_361 h
noncomputable def f_Md_put_s247 (l5 : Int) (l6 : Int) (h : xH) : Option ((Int × xH) ⊕ xH) :=
  if l6 < 6 then (xgd (w32 (l6 + 1)) 7 (xgd (w32 (l5 + l6)) 208 (xlet (xup h 144 (w32 (l5 + l6)) (h 88 (w32 (l6 + 1)))) (fun h1 => xlet (w32 (l6 + 1)) (fun x2 => some (Sum.inl (x2, h1))))))) else (some (Sum.inr h))
noncomputable def f_Md_put_247 (l5 : Int) (l6 : Int) (h : xH) : Option (Int × xH) :=
  xc1 (xloop (fun s : (Int × xH) => f_Md_put_s247 l5 s.1 s.2) (l6, h)) (fun b => f_Md_put_279 b)
noncomputable def f_Md_put_233  (h : xH) : Option (Int × xH) :=
  f_Md_put_361 h
noncomputable def f_Md_put_s196 (l3 : Int) (l5 : Int) (l6 : Int) (h : xH) : Option ((Int × xH) ⊕ xH) :=
  if h 81 47 < l6 then (some (Sum.inr h)) else (xgd (w32 ((w32 (13 * l3)) + l6)) 31213 (xgd (w32 (l5 + l6)) 208 (xlet (xup h 144 (w32 (l5 + l6)) (h 115 (w32 ((w32 (13 * l3)) + l6)))) (fun h1 => xlet (w32 (l6 + 1)) (fun x2 => some (Sum.inl (x2, h1)))))))
noncomputable def f_Md_put_196 (l3 : Int) (l5 : Int) (l6 : Int) (h : xH) : Option (Int × xH) :=
  xc1 (xloop (fun s : (Int × xH) => f_Md_put_s196 l3 l5 s.1 s.2) (l6, h)) (fun b => f_Md_put_233 b)
noncomputable def f_Md_put_178  (h : xH) : Option (Int × xH) :=
  f_Md_put_361 h
noncomputable def f_Md_put_s139 (l3 : Int) (l5 : Int) (l6 : Int) (h : xH) : Option ((Int × xH) ⊕ xH) :=
  xgd l3 200 (if l6 < h 85 l3 then (xgd (w32 ((w32 (12 * l3)) + l6)) 2400 (xgd (w32 (l5 + l6)) 208 (xlet (xup h 144 (w32 (l5 + l6)) (h 86 (w32 ((w32 (12 * l3)) + l6)))) (fun h1 => xlet (w32 (l6 + 1)) (fun x2 => some (Sum.inl (x2, h1))))))) else (some (Sum.inr h)))
noncomputable def f_Md_put_139 (l3 : Int) (l5 : Int) (l6 : Int) (h : xH) : Option (Int × xH) :=
  xc1 (xloop (fun s : (Int × xH) => f_Md_put_s139 l3 l5 s.1 s.2) (l6, h)) (fun b => f_Md_put_178 b)
noncomputable def f_Md_put_74  (h : xH) : Option (Int × xH) :=
  xc2 (f_Md_refused 1 h) (fun r1 h2 => some (r1, h2))
noncomputable def f_Md_put_57 (l1 : Int) (l2 : Int) (l3 : Int) (s0 : Int) (h : xH) : Option (Int × xH) :=
  xc1 (f_Md_in l1 0 7 h) (fun r1 => if r1 = 0 then (f_Md_put_74 h) else (if s0 = 0 then (f_Md_put_74 h) else (xgd l1 8 (xlet (xup h 142 l1 l2) (fun h2 => xlet (w32 (26 * l1)) (fun x3 => if l2 = 1 then (xgd l3 200 (xgd l1 8 (xlet (xup h2 143 l1 (h2 85 l3)) (fun h4 => f_Md_put_139 l3 x3 0 h4)))) else (if l2 = 2 then (xgd l1 8 (xlet (xup h2 143 l1 (w32 ((h2 81 47) + 1))) (fun h5 => f_Md_put_196 l3 x3 0 h5))) else (if l2 = 3 then (xgd l1 8 (xlet (xup h2 143 l1 6) (fun h6 => f_Md_put_247 x3 0 h6))) else (if l2 = 4 then (xgd l1 8 (xlet (xup h2 143 l1 26) (fun h7 => f_Md_put_293 l3 x3 0 h7))) else (f_Md_put_361 h2))))))))))
noncomputable def f_Md_put_56 (l1 : Int) (l2 : Int) (l3 : Int) (h : xH) : Option (Int × xH) :=
  f_Md_put_57 l1 l2 l3 0 h
noncomputable def f_Md_put_52 (l1 : Int) (l2 : Int) (l3 : Int) (h : xH) : Option (Int × xH) :=
  f_Md_put_57 l1 l2 l3 1 h
noncomputable def f_Md_put_33 (l1 : Int) (l2 : Int) (l3 : Int) (h : xH) : Option (Int × xH) :=
  if l2 = 2 then (xc1 (f_Md_in l3 0 (w32 ((h 81 39) - 1)) h) (fun r1 => if r1 = 0 then (f_Md_put_56 l1 l2 l3 h) else (f_Md_put_52 l1 l2 l3 h))) else (f_Md_put_56 l1 l2 l3 h)
noncomputable def f_Md_put_19 (l1 : Int) (l2 : Int) (l3 : Int) (h : xH) : Option (Int × xH) :=
  xc1 (f_Md_in l3 0 (w32 ((h 81 5) - 1)) h) (fun r1 => if r1 = 0 then (f_Md_put_33 l1 l2 l3 h) else (f_Md_put_52 l1 l2 l3 h))
noncomputable def f_Md_put (l1 : Int) (l2 : Int) (l3 : Int) (h : xH) : Option (Int × xH) :=
  if l2 = 0 then (f_Md_put_52 l1 l2 l3 h) else (if l2 = 3 then (f_Md_put_52 l1 l2 l3 h) else (if l2 = 1 then (f_Md_put_19 l1 l2 l3 h) else (if l2 = 4 then (f_Md_put_19 l1 l2 l3 h) else (f_Md_put_33 l1 l2 l3 h))))
noncomputable def f_Md_forge_271 (l5 : Int) (h : xH) : Option (Int × xH) :=
  xc2 (f_Md_done l5 h) (fun r1 h2 => some (r1, h2))
noncomputable def f_Md_forge_s237 (l1 : Int) (l3 : Int) (l5 : Int) (l6 : Int) (h : xH) : Option ((Int × Int) ⊕ Int) :=
  if l6 < l3 then (xgd (w32 ((w32 ((w32 (26 * l1)) + 1)) + l6)) 208 (xlet (w32 (l5 + (w32 (97 + (h 144 (w32 ((w32 ((w32 (26 * l1)) + 1)) + l6))))))) (fun x1 => xlet (w32 (l6 + 1)) (fun x2 => some (Sum.inl (x1, x2)))))) else (some (Sum.inr l5))
noncomputable def f_Md_forge_237 (l1 : Int) (l3 : Int) (l5 : Int) (l6 : Int) (h : xH) : Option (Int × xH) :=
  xc1 (xloop (fun s : (Int × Int) => f_Md_forge_s237 l1 l3 s.1 s.2 h) (l5, l6)) (fun b => f_Md_forge_271 b h)
noncomputable def f_Md_forge_224  (h : xH) : Option (Int × xH) :=
  xc2 (f_Md_refused 12 h) (fun r1 h2 => some (r1, h2))
noncomputable def f_Md_forge_140 (l1 : Int) (l3 : Int) (h : xH) : Option (Int × xH) :=
  xgd l1 8 (xc1 (f_Md_in l3 0 (w32 ((h 143 l1) - 1)) h) (fun r1 => if r1 = 0 then (xc2 (f_Md_refused 12 h) (fun r2 h3 => some (r2, h3))) else (xgd (w32 ((w32 (26 * l1)) + l3)) 208 (xc2 (f_Md_done (h 144 (w32 ((w32 (26 * l1)) + l3))) h) (fun r4 h5 => some (r4, h5))))))
noncomputable def f_Md_forge_91 (l1 : Int) (l2 : Int) (l3 : Int) (l4 : Int) (h : xH) : Option (Int × xH) :=
  if l2 = 0 then (f_Md_forge_140 l1 l3 h) else (if l2 = 1 then (f_Md_forge_140 l1 l3 h) else (if l2 = 2 then (f_Md_forge_140 l1 l3 h) else (if l2 = 3 then (f_Md_forge_140 l1 l3 h) else (if l2 = 4 then (if l3 < 0 then (xc2 (f_Md_refused 13 h) (fun r1 h2 => some (r1, h2))) else (xc2 (f_Md_done l3 h) (fun r3 h4 => some (r3, h4)))) else (if l2 = 5 then (if l3 < 0 then (f_Md_forge_224 h) else (xgd l1 8 (if h 143 l1 < w32 (1 + l3) then (f_Md_forge_224 h) else (if 6 < w32 (l3 + l3) then (f_Md_forge_224 h) else (f_Md_forge_237 l1 l3 0 0 h))))) else (if l2 = 6 then (if l4 = 0 then (xc2 (f_Md_done 0 h) (fun r5 h6 => some (r5, h6))) else (if l4 = 2 then (xgd l1 8 (xc2 (f_Md_done (h 143 l1) h) (fun r7 h8 => some (r7, h8)))) else (xc2 (f_Md_refused 14 h) (fun r9 h10 => some (r9, h10))))) else (if l2 = 7 then (if l3 = 0 then (xc2 (f_Md_refused 15 h) (fun r11 h12 => some (r11, h12))) else (xgp (l3 ≠ 0) (xc2 (f_Md_done (xdiv 1000 l3) h) (fun r13 h14 => some (r13, h14))))) else (xc2 (f_Md_refused 10 h) (fun r15 h16 => some (r15, h16))))))))))
noncomputable def f_Md_forge_81 (l1 : Int) (l2 : Int) (l3 : Int) (l4 : Int) (s0 : Int) (s1 : Int) (h : xH) : Option (Int × xH) :=
  if s0 = s1 then (f_Md_forge_91 l1 l2 l3 l4 h) else (xc2 (f_Md_refused 11 h) (fun r1 h2 => some (r1, h2)))
noncomputable def f_Md_forge_55 (l1 : Int) (l2 : Int) (l3 : Int) (l4 : Int) (h : xH) : Option (Int × xH) :=
  if l4 = 0 then (xc2 (f_Md_refused 10 h) (fun r1 h2 => some (r1, h2))) else (if l2 = 5 then (f_Md_forge_81 l1 l2 l3 l4 l4 1 h) else (f_Md_forge_81 l1 l2 l3 l4 l4 (w32 (l2 + 1)) h))
noncomputable def f_Md_forge_31  (h : xH) : Option (Int × xH) :=
  xc2 (f_Md_refused 1 h) (fun r1 h2 => some (r1, h2))
noncomputable def f_Md_forge (l1 : Int) (l2 : Int) (l3 : Int) (h : xH) : Option (Int × xH) :=
  xc1 (f_Md_in l1 0 7 h) (fun r1 => if r1 = 0 then (f_Md_forge_31 h) else (xc1 (f_Md_in l2 0 8 h) (fun r2 => if r2 = 0 then (f_Md_forge_31 h) else (xc1 (f_Md_in l3 (-100) 100 h) (fun r3 => if r3 = 0 then (f_Md_forge_31 h) else (xgd l1 8 (xlet (h 142 l1) (fun x4 => if 3 < l2 then (if l2 = 5 then (f_Md_forge_55 l1 l2 l3 x4 h) else (f_Md_forge_91 l1 l2 l3 x4 h)) else (f_Md_forge_55 l1 l2 l3 x4 h)))))))))
noncomputable def f_Md_status  (h : xH) : Option Int :=
  some (h 81 82)
noncomputable def f_Law_law_792 (L : Nat) (xs : Nat → Int32)  (h : xH) : Option (Int × xH) :=
  some (1, h)
noncomputable def f_Law_law_786 (L : Nat) (xs : Nat → Int32) (l3 : Int) (h : xH) : Option ((Int × xH) ⊕ (xH ⊕ (Int × xH))) :=
  xlet (w32 (l3 + 5)) (fun x1 => some (Sum.inl (x1, h)))
noncomputable def f_Law_law_s18 (L : Nat) (xs : Nat → Int32) (l3 : Int) (h : xH) : Option ((Int × xH) ⊕ (xH ⊕ (Int × xH))) :=
  if w32 ((L : Int) - 5) < l3 then (some (Sum.inr (Sum.inl h))) else (xgd l3 (L : Int) (if xand ((xs (Int.toNat l3)).toInt) 31 = 0 then (xgd (w32 (l3 + 1)) (L : Int) (xgd (w32 (l3 + 2)) (L : Int) (xgd (w32 (l3 + 3)) (L : Int) (xc2 (f_WM_feed ((xs (Int.toNat (w32 (l3 + 1)))).toInt) ((xlshl ((Int32.ofInt ((xs (Int.toNat (w32 (l3 + 2)))).toInt)).toInt64) 32) ||| ((Int32.ofInt ((xs (Int.toNat (w32 (l3 + 3)))).toInt)).toInt64 &&& (4294967295 : Int64))) h) (fun r1 h2 => xgd (w32 (l3 + 1)) (L : Int) (xgd (w32 (l3 + 2)) (L : Int) (xgd (w32 (l3 + 3)) (L : Int) (xc2 (f_Md_feed ((xs (Int.toNat (w32 (l3 + 1)))).toInt) ((xlshl ((Int32.ofInt ((xs (Int.toNat (w32 (l3 + 2)))).toInt)).toInt64) 32) ||| ((Int32.ofInt ((xs (Int.toNat (w32 (l3 + 3)))).toInt)).toInt64 &&& (4294967295 : Int64))) h2) (fun r3 h4 => if r1 = r3 then (f_Law_law_786 L xs l3 h4) else (some (Sum.inr (Sum.inr (0, h4))))))))))))) else (if xand ((xs (Int.toNat l3)).toInt) 31 = 1 then (xgd (w32 (l3 + 1)) (L : Int) (xc2 (f_WM_add ((xs (Int.toNat (w32 (l3 + 1)))).toInt) h) (fun r5 h6 => xgd (w32 (l3 + 1)) (L : Int) (xc2 (f_Md_add ((xs (Int.toNat (w32 (l3 + 1)))).toInt) h6) (fun r7 h8 => if r5 = r7 then (f_Law_law_786 L xs l3 h8) else (some (Sum.inr (Sum.inr (0, h8))))))))) else (if xand ((xs (Int.toNat l3)).toInt) 31 = 2 then (xc2 (f_WM_drop h) (fun r9 h10 => xc2 (f_Md_drop h10) (fun r11 h12 => if r9 = r11 then (f_Law_law_786 L xs l3 h12) else (some (Sum.inr (Sum.inr (0, h12))))))) else (if xand ((xs (Int.toNat l3)).toInt) 31 = 3 then (xc2 (f_WM_find h) (fun r13 h14 => xc2 (f_Md_find h14) (fun r15 h16 => if r13 = r15 then (f_Law_law_786 L xs l3 h16) else (some (Sum.inr (Sum.inr (0, h16))))))) else (if xand ((xs (Int.toNat l3)).toInt) 31 = 4 then (xgd (w32 (l3 + 1)) (L : Int) (xgd (w32 (l3 + 2)) (L : Int) (xc1 (f_WM_word ((xs (Int.toNat (w32 (l3 + 1)))).toInt) ((xs (Int.toNat (w32 (l3 + 2)))).toInt) h) (fun r17 => xgd (w32 (l3 + 1)) (L : Int) (xgd (w32 (l3 + 2)) (L : Int) (xc1 (f_Md_word ((xs (Int.toNat (w32 (l3 + 1)))).toInt) ((xs (Int.toNat (w32 (l3 + 2)))).toInt) h) (fun r18 => if r17 = r18 then (f_Law_law_786 L xs l3 h) else (some (Sum.inr (Sum.inr (0, h))))))))))) else (if xand ((xs (Int.toNat l3)).toInt) 31 = 5 then (xgd (w32 (l3 + 1)) (L : Int) (xc1 (f_WM_count ((xs (Int.toNat (w32 (l3 + 1)))).toInt) h) (fun r19 => xgd (w32 (l3 + 1)) (L : Int) (xc1 (f_Md_count ((xs (Int.toNat (w32 (l3 + 1)))).toInt) h) (fun r20 => if r19 = r20 then (f_Law_law_786 L xs l3 h) else (some (Sum.inr (Sum.inr (0, h))))))))) else (if xand ((xs (Int.toNat l3)).toInt) 31 = 6 then (xgd (w32 (l3 + 1)) (L : Int) (xgd (w32 (l3 + 2)) (L : Int) (xgd (w32 (l3 + 3)) (L : Int) (xgd (w32 (l3 + 4)) (L : Int) (xc2 (f_WM_price ((xs (Int.toNat (w32 (l3 + 1)))).toInt) ((xs (Int.toNat (w32 (l3 + 2)))).toInt) ((xs (Int.toNat (w32 (l3 + 3)))).toInt) ((xs (Int.toNat (w32 (l3 + 4)))).toInt) h) (fun r21 h22 => xgd (w32 (l3 + 1)) (L : Int) (xgd (w32 (l3 + 2)) (L : Int) (xgd (w32 (l3 + 3)) (L : Int) (xgd (w32 (l3 + 4)) (L : Int) (xc2 (f_Md_price ((xs (Int.toNat (w32 (l3 + 1)))).toInt) ((xs (Int.toNat (w32 (l3 + 2)))).toInt) ((xs (Int.toNat (w32 (l3 + 3)))).toInt) ((xs (Int.toNat (w32 (l3 + 4)))).toInt) h22) (fun r23 h24 => if r21 = r23 then (f_Law_law_786 L xs l3 h24) else (some (Sum.inr (Sum.inr (0, h24))))))))))))))) else (if xand ((xs (Int.toNat l3)).toInt) 31 = 7 then (xgd (w32 (l3 + 1)) (L : Int) (xc2 (f_WM_sound ((xs (Int.toNat (w32 (l3 + 1)))).toInt) h) (fun r25 h26 => xgd (w32 (l3 + 1)) (L : Int) (xc2 (f_Md_sound ((xs (Int.toNat (w32 (l3 + 1)))).toInt) h26) (fun r27 h28 => if r25 = r27 then (f_Law_law_786 L xs l3 h28) else (some (Sum.inr (Sum.inr (0, h28))))))))) else (if xand ((xs (Int.toNat l3)).toInt) 31 = 8 then (xgd (w32 (l3 + 1)) (L : Int) (xc2 (f_WM_model ((xs (Int.toNat (w32 (l3 + 1)))).toInt) h) (fun r29 h30 => xgd (w32 (l3 + 1)) (L : Int) (xc2 (f_Md_model ((xs (Int.toNat (w32 (l3 + 1)))).toInt) h30) (fun r31 h32 => if r29 = r31 then (f_Law_law_786 L xs l3 h32) else (some (Sum.inr (Sum.inr (0, h32))))))))) else (if xand ((xs (Int.toNat l3)).toInt) 31 = 9 then (xc2 (f_WM_distance h) (fun r33 h34 => xc2 (f_Md_distance h34) (fun r35 h36 => if r33 = r35 then (f_Law_law_786 L xs l3 h36) else (some (Sum.inr (Sum.inr (0, h36))))))) else (if xand ((xs (Int.toNat l3)).toInt) 31 = 10 then (xgd (w32 (l3 + 1)) (L : Int) (xgd (w32 (l3 + 2)) (L : Int) (xc1 (f_WM_way ((xs (Int.toNat (w32 (l3 + 1)))).toInt) ((xs (Int.toNat (w32 (l3 + 2)))).toInt) h) (fun r37 => xgd (w32 (l3 + 1)) (L : Int) (xgd (w32 (l3 + 2)) (L : Int) (xc1 (f_Md_way ((xs (Int.toNat (w32 (l3 + 1)))).toInt) ((xs (Int.toNat (w32 (l3 + 2)))).toInt) h) (fun r38 => if r37 = r38 then (f_Law_law_786 L xs l3 h) else (some (Sum.inr (Sum.inr (0, h))))))))))) else (if xand ((xs (Int.toNat l3)).toInt) 31 = 11 then (xgd (w32 (l3 + 1)) (L : Int) (xc2 (f_WM_near ((xs (Int.toNat (w32 (l3 + 1)))).toInt) h) (fun r39 h40 => xgd (w32 (l3 + 1)) (L : Int) (xc2 (f_Md_near ((xs (Int.toNat (w32 (l3 + 1)))).toInt) h40) (fun r41 h42 => if r39 = r41 then (f_Law_law_786 L xs l3 h42) else (some (Sum.inr (Sum.inr (0, h42))))))))) else (if xand ((xs (Int.toNat l3)).toInt) 31 = 12 then (xgd (w32 (l3 + 1)) (L : Int) (xc2 (f_WM_nearest ((xs (Int.toNat (w32 (l3 + 1)))).toInt) h) (fun r43 h44 => xgd (w32 (l3 + 1)) (L : Int) (xc2 (f_Md_nearest ((xs (Int.toNat (w32 (l3 + 1)))).toInt) h44) (fun r45 h46 => if r43 = r45 then (f_Law_law_786 L xs l3 h46) else (some (Sum.inr (Sum.inr (0, h46))))))))) else (if xand ((xs (Int.toNat l3)).toInt) 31 = 13 then (xgd (w32 (l3 + 1)) (L : Int) (xc2 (f_WM_complete ((xs (Int.toNat (w32 (l3 + 1)))).toInt) h) (fun r47 h48 => xgd (w32 (l3 + 1)) (L : Int) (xc2 (f_Md_complete ((xs (Int.toNat (w32 (l3 + 1)))).toInt) h48) (fun r49 h50 => if r47 = r49 then (f_Law_law_786 L xs l3 h50) else (some (Sum.inr (Sum.inr (0, h50))))))))) else (if xand ((xs (Int.toNat l3)).toInt) 31 = 14 then (xgd (w32 (l3 + 1)) (L : Int) (xgd (w32 (l3 + 2)) (L : Int) (xc1 (f_WM_found ((xs (Int.toNat (w32 (l3 + 1)))).toInt) ((xs (Int.toNat (w32 (l3 + 2)))).toInt) h) (fun r51 => xgd (w32 (l3 + 1)) (L : Int) (xgd (w32 (l3 + 2)) (L : Int) (xc1 (f_Md_found ((xs (Int.toNat (w32 (l3 + 1)))).toInt) ((xs (Int.toNat (w32 (l3 + 2)))).toInt) h) (fun r52 => if r51 = r52 then (f_Law_law_786 L xs l3 h) else (some (Sum.inr (Sum.inr (0, h))))))))))) else (if xand ((xs (Int.toNat l3)).toInt) 31 = 15 then (xgd (w32 (l3 + 1)) (L : Int) (xgd (w32 (l3 + 2)) (L : Int) (xc1 (f_WM_node ((xs (Int.toNat (w32 (l3 + 1)))).toInt) ((xs (Int.toNat (w32 (l3 + 2)))).toInt) h) (fun r53 => xgd (w32 (l3 + 1)) (L : Int) (xgd (w32 (l3 + 2)) (L : Int) (xc1 (f_Md_node ((xs (Int.toNat (w32 (l3 + 1)))).toInt) ((xs (Int.toNat (w32 (l3 + 2)))).toInt) h) (fun r54 => if r53 = r54 then (f_Law_law_786 L xs l3 h) else (some (Sum.inr (Sum.inr (0, h))))))))))) else (if xand ((xs (Int.toNat l3)).toInt) 31 = 16 then (xc2 (f_WM_pair h) (fun r55 h56 => xc2 (f_Md_pair h56) (fun r57 h58 => if r55 = r57 then (f_Law_law_786 L xs l3 h58) else (some (Sum.inr (Sum.inr (0, h58))))))) else (if xand ((xs (Int.toNat l3)).toInt) 31 = 17 then (xc2 (f_WM_learn h) (fun r59 h60 => xc2 (f_Md_learn h60) (fun r61 h62 => if r59 = r61 then (f_Law_law_786 L xs l3 h62) else (some (Sum.inr (Sum.inr (0, h62))))))) else (if xand ((xs (Int.toNat l3)).toInt) 31 = 18 then (xc2 (f_WM_spread h) (fun r63 h64 => xc2 (f_Md_spread h64) (fun r65 h66 => if r63 = r65 then (f_Law_law_786 L xs l3 h66) else (some (Sum.inr (Sum.inr (0, h66))))))) else (if xand ((xs (Int.toNat l3)).toInt) 31 = 19 then (xgd (w32 (l3 + 1)) (L : Int) (xc2 (f_WM_mend ((xs (Int.toNat (w32 (l3 + 1)))).toInt) h) (fun r67 h68 => xgd (w32 (l3 + 1)) (L : Int) (xc2 (f_Md_mend ((xs (Int.toNat (w32 (l3 + 1)))).toInt) h68) (fun r69 h70 => if r67 = r69 then (f_Law_law_786 L xs l3 h70) else (some (Sum.inr (Sum.inr (0, h70))))))))) else (if xand ((xs (Int.toNat l3)).toInt) 31 = 20 then (xgd (w32 (l3 + 1)) (L : Int) (xgd (w32 (l3 + 2)) (L : Int) (xc1 (f_WM_part ((xs (Int.toNat (w32 (l3 + 1)))).toInt) ((xs (Int.toNat (w32 (l3 + 2)))).toInt) h) (fun r71 => xgd (w32 (l3 + 1)) (L : Int) (xgd (w32 (l3 + 2)) (L : Int) (xc1 (f_Md_part ((xs (Int.toNat (w32 (l3 + 1)))).toInt) ((xs (Int.toNat (w32 (l3 + 2)))).toInt) h) (fun r72 => if r71 = r72 then (f_Law_law_786 L xs l3 h) else (some (Sum.inr (Sum.inr (0, h))))))))))) else (if xand ((xs (Int.toNat l3)).toInt) 31 = 21 then (xgd (w32 (l3 + 1)) (L : Int) (xgd (w32 (l3 + 2)) (L : Int) (xgd (w32 (l3 + 3)) (L : Int) (xc2 (f_WM_put ((xs (Int.toNat (w32 (l3 + 1)))).toInt) ((xs (Int.toNat (w32 (l3 + 2)))).toInt) ((xs (Int.toNat (w32 (l3 + 3)))).toInt) h) (fun r73 h74 => xgd (w32 (l3 + 1)) (L : Int) (xgd (w32 (l3 + 2)) (L : Int) (xgd (w32 (l3 + 3)) (L : Int) (xc2 (f_Md_put ((xs (Int.toNat (w32 (l3 + 1)))).toInt) ((xs (Int.toNat (w32 (l3 + 2)))).toInt) ((xs (Int.toNat (w32 (l3 + 3)))).toInt) h74) (fun r75 h76 => if r73 = r75 then (f_Law_law_786 L xs l3 h76) else (some (Sum.inr (Sum.inr (0, h76))))))))))))) else (if xand ((xs (Int.toNat l3)).toInt) 31 = 22 then (xgd (w32 (l3 + 1)) (L : Int) (xgd (w32 (l3 + 2)) (L : Int) (xgd (w32 (l3 + 3)) (L : Int) (xc2 (f_WM_forge ((xs (Int.toNat (w32 (l3 + 1)))).toInt) ((xs (Int.toNat (w32 (l3 + 2)))).toInt) ((xs (Int.toNat (w32 (l3 + 3)))).toInt) h) (fun r77 h78 => xgd (w32 (l3 + 1)) (L : Int) (xgd (w32 (l3 + 2)) (L : Int) (xgd (w32 (l3 + 3)) (L : Int) (xc2 (f_Md_forge ((xs (Int.toNat (w32 (l3 + 1)))).toInt) ((xs (Int.toNat (w32 (l3 + 2)))).toInt) ((xs (Int.toNat (w32 (l3 + 3)))).toInt) h78) (fun r79 h80 => if r77 = r79 then (f_Law_law_786 L xs l3 h80) else (some (Sum.inr (Sum.inr (0, h80))))))))))))) else (if xand ((xs (Int.toNat l3)).toInt) 31 = 23 then (xc1 (f_WM_status h) (fun r81 => xc1 (f_Md_status h) (fun r82 => if r81 = r82 then (f_Law_law_786 L xs l3 h) else (some (Sum.inr (Sum.inr (0, h))))))) else (f_Law_law_786 L xs l3 h))))))))))))))))))))))))))
noncomputable def f_Law_law_18 (L : Nat) (xs : Nat → Int32) (l3 : Int) (h : xH) : Option (Int × xH) :=
  xc1 (xloop (fun s : (Int × xH) => f_Law_law_s18 L xs s.1 s.2) (l3, h)) (fun q => xsw q (fun b => f_Law_law_792 L xs b) (fun r => some r))
noncomputable def f_Law_law_16 (L : Nat) (xs : Nat → Int32)  (h : xH) : Option (Int × xH) :=
  f_Law_law_18 L xs 0 h
