theorem pure_ok : PureOk := sorry
