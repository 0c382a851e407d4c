theorem pure_ok : PureOk := pure_fin
