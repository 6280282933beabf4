/-! every call keeps the relation and answers alike on both sides -/
def RR (h : KH) : Prop := ∃ c, RP c h
theorem RR_all : KAg RR := by
  refine ⟨fun h a b d e f w => ?_, fun h a w => ?_, fun h w => ?_, fun h a w => ?_, fun h a w => ?_, fun h a b d w => ?_, fun h a b w => ?_, fun h a b w => ?_, fun h a b w => ?_, fun h a b d w => ?_, fun h a b w => ?_, fun h a b d w => ?_, fun h a w => ?_, fun h a b w => ?_, fun h a b w => ?_, fun h a w => ?_, fun h w => ?_, fun h a b w => ?_, fun h a w => ?_, fun h a b w => ?_, fun h a b w => ?_, fun h w => ?_, fun h w => ?_, fun h a b d w => ?_, fun h a b d w => ?_, fun h a w => ?_, fun h a w => ?_, fun h w => ?_, fun h a w => ?_, fun h w => ?_, fun h w => ?_, fun h a w => ?_, fun h w => ?_, fun h a w => ?_⟩
  all_goals obtain ⟨c, rp⟩ := w
  all_goals obtain ⟨rc, rn, rr, ry, rs, rk, rpa, rcm, rz, ra, rwd, rt, rre, rsd, rfa, rim⟩ := id rp
  all_goals have hr := rc.1
  · obtain ⟨r, h1, h2, e1, e2, t, q, fr⟩ := c_feed a b d e f hr rt rre
    exact ⟨r, h1, h2, e1, e2, c, rp.tape t q fr⟩
  · obtain ⟨r, h1, h2, e1, e2, t, q, fr⟩ := c_end a hr rt rre
    exact ⟨r, h1, h2, e1, e2, c, rp.tape t q fr⟩
  · exact c_court rp
  · exact c_fault a hr rfa.1 rfa.2
  · refine c_has rc rs rk ?_ ?_ a
    · obtain ⟨n, -, u, v, -⟩ := ra
      exact u.trans v.symm
    · obtain ⟨n, m, -, -, u, v, -⟩ := rpa
      exact u.trans v.symm
  · exact c_letter rc rn a b d
  · exact c_kind rc a b
  · exact c_test rc rs a b
  · exact c_mark rc rs a b
  · obtain ⟨r, h1, h2, e1, e2, s⟩ := c_yieldsZ rc rs rr ry rz a b d
    exact ⟨r, h1, h2, e1, e2, c, rp.scr s⟩
  · exact c_kept rc rk a b
  · obtain ⟨r, h1, h2, e1, e2, s⟩ := c_weight rc rs rr ry rz a b d
    exact ⟨r, h1, h2, e1, e2, c, rp.scr s⟩
  · obtain ⟨r, h1, h2, e1, e2, s⟩ := c_odds rc rs rr ry rz a
    exact ⟨r, h1, h2, e1, e2, c, rp.scr s⟩
  · obtain ⟨r, h1, h2, e1, e2, s⟩ := c_kinds rc rs rr ry rz a b
    exact ⟨r, h1, h2, e1, e2, c, rp.scr s⟩
  · obtain ⟨r, h1, h2, e1, e2, s⟩ := c_would rc rs rr ry rz a b
    exact ⟨r, h1, h2, e1, e2, c, rp.scr s⟩
  · obtain ⟨r, h1, h2, e1, e2, s⟩ := c_merit rc rs rr ry rz a
    exact ⟨r, h1, h2, e1, e2, c, rp.scr s⟩
  · obtain ⟨r, h1, h2, e1, e2, s⟩ := c_best rc rs rr ry rz
    exact ⟨r, h1, h2, e1, e2, c, rp.scr s⟩
  · obtain ⟨r, h1, h2, e1, e2, s⟩ := c_parts rc rs rr ry rz a b
    exact ⟨r, h1, h2, e1, e2, c, rp.scr s⟩
  · obtain ⟨r, h1, h2, e1, e2, s⟩ := c_sure rc rs rr ry rz a
    exact ⟨r, h1, h2, e1, e2, c, rp.scr s⟩
  · obtain ⟨r, h1, h2, e1, e2, s⟩ := c_ahead rc rs rr ry rz rcm a b
    exact ⟨r, h1, h2, e1, e2, c, rp.aftA s⟩
  · obtain ⟨r, h1, h2, e1, e2, s⟩ := c_known rc rs rr ry rz a b
    exact ⟨r, h1, h2, e1, e2, c, rp.scr s⟩
  · obtain ⟨r, h1, h2, e1, e2, t, q, w, fr⟩ := c_tell rc rt rre ra
    exact ⟨r, h1, h2, e1, e2, c, rp.tell t q w fr⟩
  · obtain ⟨r, h1, h2, e1, e2, s⟩ := c_trick rc rs rr ra ry rz
    exact ⟨r, h1, h2, e1, e2, c, rp.scr s⟩
  · obtain ⟨r, h1, h2, e1, e2, s⟩ := c_hear rc rs rk rpa rr ry rz rre a b d
    exact ⟨r, h1, h2, e1, e2, c, rp.aftH s⟩
  · obtain ⟨r, h1, h2, e1, e2, s⟩ := c_look rc rs rk rpa rre a b d
    exact ⟨r, h1, h2, e1, e2, c, rp.aft s⟩
  · obtain ⟨r, h1, h2, e1, e2, s⟩ := c_judge rc rs rk rpa rre a
    exact ⟨r, h1, h2, e1, e2, c, rp.aft s⟩
  · obtain ⟨r, h1, h2, e1, e2, s⟩ := c_chance rc rs rk rpa rr ry rz rre rsd a
    exact ⟨r, h1, h2, e1, e2, c, rp.aftC s⟩
  · obtain ⟨r, h1, h2, e1, e2, s⟩ := c_undo hr rpa rre
    exact ⟨r, h1, h2, e1, e2, c, rp.aft s⟩
  · obtain ⟨r, h1, h2, e1, e2, q, s, fr⟩ := c_seed a hr rre rsd
    exact ⟨r, h1, h2, e1, e2, c, rp.seed q s fr⟩
  · obtain ⟨r, h1, h2, e1, e2, s⟩ := c_ask rc rs rr ry rz rt rwd
    exact ⟨r, h1, h2, e1, e2, c, rp.aftQ s⟩
  · obtain ⟨r, h1, h2, e1, e2, g, fr⟩ := c_image rc rs
    exact ⟨r, h1, h2, e1, e2, c, rp.img g fr⟩
  · obtain ⟨n, n27, u, v, w⟩ := rim
    exact c_octet a hr n27 u v w
  · obtain ⟨r, h1, h2, e1, e2, t, s⟩ := c_on rc rt rs rpa rre
    exact ⟨r, h1, h2, e1, e2, c, rp.aftW t s⟩
  · exact c_status a hr rre
/-- hpure -/
theorem law_all (xs : Nat → Int32) (L : Nat) (hL : L ≤ 3072) : ∃ h' : KH, f_L_law xs L kh0 1000030 = some (1, h') := law_pure RR_all (fun _ hk => ⟨12, start_RP hk⟩) xs L hL
